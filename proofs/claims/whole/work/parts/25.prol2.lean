theorem dL_law_0 : decode code 0 = .ok (.new 7, 3) := by decide +kernel
theorem dL_law_3 : decode code 3 = .ok (.dup, 1) := by decide +kernel
theorem dL_law_4 : decode code 4 = .ok (.invokespecial 9, 3) := by decide +kernel
theorem dL_law_7 : decode code 7 = .ok (.astore_n 1, 1) := by decide +kernel
theorem dL_law_8 : decode code 8 = .ok (.new 10, 3) := by decide +kernel
theorem dL_law_11 : decode code 11 = .ok (.dup, 1) := by decide +kernel
theorem dL_law_12 : decode code 12 = .ok (.invokespecial 12, 3) := by decide +kernel
theorem dL_law_15 : decode code 15 = .ok (.astore_n 2, 1) := by decide +kernel
theorem dL_law_16 : decode code 16 = .ok (.iconst 0, 1) := by decide +kernel
theorem dL_law_17 : decode code 17 = .ok (.istore_n 3, 1) := by decide +kernel
theorem arr_known {ty : FieldType} {s : State} {args : Array Value} (hp : ∀ C, ty ≠ .object C) (h : (Cond.arrayClass ty).before args s = true) : ∃ cA, ArrOfT s cA ty ∧ va_RA s cA ty := by
  obtain ⟨cA, kA, comp, h1, h2, h3⟩ := Cond.arrayClass_spec h
  refine ⟨cA, fun N z => ⟨(fun k h => by cases h), kA, h2, comp, h3⟩, ?_⟩
  cases ty with
  | object C => exact absurd rfl (hp C)
  | _ => exact h1
theorem arr_knownO {C : String} {s : State} {args : Array Value} (h : (Cond.arrayOver (.object C)).before args s = true) : ∃ cA, ArrOfT s cA (.object C) ∧ va_RA s cA (.object C) := by
  obtain ⟨comp, cA, kA, h1, -, h3, h4, h5⟩ := Cond.arrayOver_spec h
  exact ⟨cA, fun N z => ⟨(fun k h => by cases h), kA, h3, comp, h4⟩, kA, comp, h3, h4, h1, h5⟩
theorem new_at {s : State} {args : Array Value} {D : va_G} {dA : Nat → ClassId} {base n ci N idx : Nat} {own : String} {H1 : Heap} {kC : Class} (hg : ∀ w ∈ gtb, w.before args s = true) (K : va_K D vwCl (tysF dA) s) (hf : NWF own idx ci N) (hkC : s.vm.classes[D.1 ci]? = some kC) (e1 : H1[base + n]? = some (blank (D.1 ci) kC)) : va_at D vwCl (base + n, cvt dA base (cO ci (dfl ci))) H1 := by
  obtain ⟨C0, T, ty, hcl, hin2, hty, hlk2, hins, hini, hdf⟩ := hf
  exact ⟨_, hcl, (u_born ty hg hin2 (K.1 ci _ hcl) hkC e1 hty).to (hdf base)⟩
theorem initW_on : ∀ w ∈ initW, w.onTables = true := by
  intro w hw
  simp only [initW, List.mem_cons, List.not_mem_nil, or_false] at hw
  rcases hw with rfl | rfl | rfl | rfl | rfl | rfl | rfl | rfl | rfl | rfl <;> rfl
theorem nestW_on : ∀ w ∈ nestW, w.onTables = true := by
  intro w hw
  simp only [nestW, List.mem_cons, List.not_mem_nil, or_false] at hw
  rcases hw with rfl | rfl | rfl | rfl | rfl | rfl <;> rfl
set_option maxHeartbeats 4000000 in
theorem whole_from {p : Program} {e : Env} {s : State} {m : MethodId} {below : List Frame} {meth : Method} {c : Code} (l : Launch) {b L : Nat} {xs : Nat → Int32} (hL : L ≤ 2560) (C0 : lw_At p s m meth c b L xs)
    (hE : E 20 (mLaw b L xs) 18 [(0, vr 130), (1, vr 68), (2, vr 103), (3, vi 0)] [] h0 (qi (fun r _ => r = 1))) : W p l e room_1 s m #[Value.ref b] below meth c s.heap [] 0 0 (lw_Z below #[Value.ref b] s) (entryFrame m ([Value.ref b] : List Value).toArray 4) := by
  obtain ⟨hx, hb, hr0, hml, hown, hts, hX, hbl, hlocks, hgv⟩ := id C0
  have hg : ∀ w ∈ gtb, w.before #[Value.ref b] s = true := fun w hw => hts w (gtb_tbl hw)
  obtain ⟨base, hbase⟩ : ∃ x, x = s.heap.size := ⟨_, rfl⟩
  obtain ⟨c0, iS0, hKn0⟩ := u_known (C := RX0) (T := TX0) (N := 2) (n := 2) hg i_X0 (hg _ in_X0)
  obtain ⟨c1, iS1, hKn1⟩ := u_known (C := RX1) (T := TX1) (N := 6) (n := 6) hg i_X1 (hg _ in_X1)
  obtain ⟨c2, iS2, hKn2⟩ := u_known (C := RX2) (T := TX2) (N := 4) (n := 4) hg i_X2 (hg _ in_X2)
  obtain ⟨c3, iS3, hKn3⟩ := u_known (C := RX3) (T := TX3) (N := 5) (n := 5) hg i_X3 (hg _ in_X3)
  obtain ⟨c4, iS4, hKn4⟩ := u_known (C := RX4) (T := TX4) (N := 4) (n := 4) hg i_X4 (hg _ in_X4)
  obtain ⟨c5, iS5, hKn5⟩ := u_known (C := RX5) (T := TX5) (N := 2) (n := 2) hg i_X5 (hg _ in_X5)
  obtain ⟨c6, iS6, hKn6⟩ := u_known (C := RX6) (T := TX6) (N := 3) (n := 3) hg i_X6 (hg _ in_X6)
  obtain ⟨c7, iS7, hKn7⟩ := u_known (C := RX7) (T := TX7) (N := 3) (n := 3) hg i_X7 (hg _ in_X7)
  obtain ⟨c8, iS8, hKn8⟩ := u_known (C := RX8) (T := TX8) (N := 2) (n := 2) hg i_X8 (hg _ in_X8)
  obtain ⟨c9, iS9, hKn9⟩ := u_known (C := RX9) (T := TX9) (N := 4) (n := 4) hg i_X9 (hg _ in_X9)
  obtain ⟨c10, iS10, hKn10⟩ := u_known (C := RX10) (T := TX10) (N := 13) (n := 13) hg i_X10 (hg _ in_X10)
  obtain ⟨c11, iS11, hKn11⟩ := u_known (C := RX11) (T := TX11) (N := 34) (n := 34) hg i_X11 (hg _ in_X11)
  obtain ⟨D, hKc⟩ : ∃ D : va_G, ∀ (k : Nat) (q : vw_C), vwCl[k]? = some q → u_Kn s q.1 q.2.1 q.2.2 (D.1 k) (D.2 k) := by
    refine ⟨(fun k => if k = 0 then c0 else if k = 1 then c1 else if k = 2 then c2 else if k = 3 then c3 else if k = 4 then c4 else if k = 5 then c5 else if k = 6 then c6 else if k = 7 then c7 else if k = 8 then c8 else if k = 9 then c9 else if k = 10 then c10 else c11, fun k => if k = 0 then iS0 else if k = 1 then iS1 else if k = 2 then iS2 else if k = 3 then iS3 else if k = 4 then iS4 else if k = 5 then iS5 else if k = 6 then iS6 else if k = 7 then iS7 else if k = 8 then iS8 else if k = 9 then iS9 else if k = 10 then iS10 else iS11), ?_⟩
    intro k q hq
    match k, hq with
    | 0, hq => cases hq; exact hKn0
    | 1, hq => cases hq; exact hKn1
    | 2, hq => cases hq; exact hKn2
    | 3, hq => cases hq; exact hKn3
    | 4, hq => cases hq; exact hKn4
    | 5, hq => cases hq; exact hKn5
    | 6, hq => cases hq; exact hKn6
    | 7, hq => cases hq; exact hKn7
    | 8, hq => cases hq; exact hKn8
    | 9, hq => cases hq; exact hKn9
    | 10, hq => cases hq; exact hKn10
    | 11, hq => cases hq; exact hKn11
    | k + 12, hq => exact absurd (show (vwCl[k + 12]?) = none from rfl) (by rw [hq]; exact fun h => by cases h)
  obtain ⟨a0, ha0, ra0⟩ := arr_known (ty := .int) (fun _ h => by cases h) (hg _ ac_int)
  obtain ⟨a1, ha1, ra1⟩ := arr_known (ty := .boolean) (fun _ h => by cases h) (hg _ ac_boolean)
  obtain ⟨a2, ha2, ra2⟩ := arr_known (ty := .long) (fun _ h => by cases h) (hg _ ac_long)
  have hoN : (Cond.arrayOver (.object "ComparatorNetworks$Network")).before #[Value.ref b] s = true := hts _ (List.mem_of_getElem? (i := 76) (by decide +kernel))
  have hoS : (Cond.arrayOver (.object "ComparatorNetworks$Shelf")).before #[Value.ref b] s = true := hts _ (List.mem_of_getElem? (i := 173) (by decide +kernel))
  obtain ⟨a3, ha3, ra3⟩ := arr_knownO hoN
  obtain ⟨a4, ha4, ra4⟩ := arr_knownO hoS
  obtain ⟨dA, hdA⟩ : ∃ dA : Nat → ClassId, dA 0 = a0 ∧ dA 1 = a1 ∧ dA 2 = a2 ∧ dA 3 = a3 ∧ dA 4 = a4 := ⟨fun k => if k = 0 then a0 else if k = 1 then a1 else if k = 2 then a2 else if k = 3 then a3 else a4, rfl, rfl, rfl, rfl, rfl⟩
  obtain ⟨rfl, rfl, rfl, rfl, rfl⟩ := hdA
  have K : va_K D vwCl (tysF dA) s := by
    refine ⟨hKc, fun k q hq => ?_⟩
    match k, hq with
    | 0, hq => cases hq; exact ⟨ha0, ra0⟩
    | 1, hq => cases hq; exact ⟨ha1, ra1⟩
    | 2, hq => cases hq; exact ⟨ha2, ra2⟩
    | 3, hq => cases hq; exact ⟨ha3, ra3⟩
    | 4, hq => cases hq; exact ⟨ha4, ra4⟩
    | k + 5, hq => exact absurd (show ((tysF dA)[k + 5]?) = none from rfl) (by rw [hq]; exact fun h => by cases h)
  have Ns : Nsi s := ⟨fun w hw => va_Nw.of (initW_on w hw) (hts w (initW_tbl w hw)), va_AO.of hoN, va_AO.of hoS⟩
  have Nt : Nst s := fun w hw => va_Nw.of (nestW_on w hw) (hts w (nestW_in w hw))
  have hS : va_S (fun q => base ≤ q) s.heap s.heap [] := va_S.rf
  have hl := lv_entry ([.ref b]) (n := 4) (Nat.le_of_ble_eq_true rfl)
  rw [lg_entry_eq]
  generalize (lg_sl ([.ref b]) ++ List.replicate (4 - (lg_sl ([.ref b])).length) Slot.unset).toArray = ls at hl ⊢
  have hl : lv_has ls 4 [(0, .ref b)] := hl
  obtain ⟨cz, hcz⟩ : ∃ cz : Nat → CDs, cz = fun _ => cP 0 0 (fun _ => 0) := ⟨_, rfl⟩
  have hP : va_P D vwCl (wsF dA base 0 cz) s.heap := fun k q hq => absurd (wsF_of hq).1 (Nat.not_lt_zero _)
  have hz : s.heap.size = base + 0 := by rw [hbase]; rfl
  refine W.newcK hx hb hown (hg _ cl_L_7) (hg _ in_X10) (hg _ cfX10.1) rfl dL_law_0 (Nat.le_of_ble_eq_true rfl) (Nat.le_of_ble_eq_true rfl) (K.1 10 _ rfl).2.1 hz fun H1 kC hkC e1 z1 o1 => ?_
  have hP := wsF_push (c := cO 10 (dfl 10)) hP hz (new_at hg K nw_L_7 hkC e1) (fun q hq => o1 q (by rw [← hz]; exact hq))
  have hS : va_S (fun q => base ≤ q) s.heap H1 _ := ⟨Nat.le_trans hS.1 (by rw [z1, hz]; omega), fun x h1 h2 => (o1 x (by have := hS.1; omega)).trans (hS.2.1 x h1 h2), hS.2.2⟩
  have hz : H1.size = base + 1 := by rw [z1]
  obtain ⟨ca, hca⟩ : ∃ x, cu cz 0 (cO 10 (dfl 10)) = x := ⟨_, rfl⟩
  have hT : ca 0 = cO 10 (dfl 10) := by rw [← hca, cu_self]
  rw [hca] at hP
  refine lv_dup hx hb dL_law_3 rfl ?_
  have hcb : CallB room_1 s #[Value.ref b] RL 9 yX10_init mX10_init.2.1 mX10_init.2.2.1 none (wsM mX10_init) (rmF 3 102 3916) 102 3916 0 := callB_of 0 hg (wsM_good fX10_init) rfl rfl rfl (hg _ fX10_init.2.1.1) (hg _ lL_9) ⟨fX10_init.2.1.2.1, fX10_init.2.1.2.2.1, fX10_init.2.2.1⟩ ⟨Nat.le_of_ble_eq_true rfl, Nat.le_of_ble_eq_true rfl⟩
  refine callF_core (rest := [Value.ref (base + 0)]) (va_runI (As := []) (b := base + 0) ⟨hx, hb, hml, hown, hg⟩ (kX10 (Q := fun n' cs' => n' = 103 ∧ (∀ j, j < 0 → cs' j = ca j) ∧ ∀ j, 0 ≤ j → j < 103 → cs' j = LW j) hT (fun cs' q1 q2 => ⟨rfl, q1, q2⟩) l D dA base) ⟨hcb, rfl, hg _ im_X10⟩ ⟨PcF_blind, PcF_at K Ns hz hP⟩ rfl rfl hl.1 rfl (lv_room (Nat.le_of_ble_eq_true rfl)) dL_law_4 ⟨Nat.le_of_ble_eq_true rfl, Nat.le_of_ble_eq_true rfl⟩) hS ?_
  rintro _ cb H103 locs103 ⟨rfl, hO103, hN103⟩ hz hP hS
  refine lv_astore_n (lv' := [(1, .ref (base + 0)), (0, .ref b)]) hx hb dL_law_7 rfl hl (by decide) rfl (fun ls hl => ?_)
  refine W.newcK hx hb hown (hg _ cl_L_10) (hg _ in_X11) (hg _ cfX11.1) rfl dL_law_8 (Nat.le_of_ble_eq_true rfl) (Nat.le_of_ble_eq_true rfl) (K.1 11 _ rfl).2.1 hz fun H104 kC hkC e1 z1 o1 => ?_
  have hP := wsF_push (c := cO 11 (dfl 11)) hP hz (new_at hg K nw_L_10 hkC e1) (fun q hq => o1 q (by rw [← hz]; exact hq))
  have hS : va_S (fun q => base ≤ q) s.heap H104 _ := ⟨Nat.le_trans hS.1 (by rw [z1, hz]; omega), fun x h1 h2 => (o1 x (by have := hS.1; omega)).trans (hS.2.1 x h1 h2), hS.2.2⟩
  have hz : H104.size = base + 104 := by rw [z1]
  obtain ⟨cc, hcc⟩ : ∃ x, cu cb 103 (cO 11 (dfl 11)) = x := ⟨_, rfl⟩
  have hT : cc 103 = cO 11 (dfl 11) := by rw [← hcc, cu_self]
  rw [hcc] at hP
  refine lv_dup hx hb dL_law_11 rfl ?_
  have hcb : CallB room_1 s #[Value.ref b] RL 12 yX11_init mX11_init.2.1 mX11_init.2.2.1 none (wsM mX11_init) (rmF 1 23 5449) 23 5449 0 := callB_of 0 hg (wsM_good fX11_init) rfl rfl rfl (hg _ fX11_init.2.1.1) (hg _ lL_12) ⟨fX11_init.2.1.2.1, fX11_init.2.1.2.2.1, fX11_init.2.2.1⟩ ⟨Nat.le_of_ble_eq_true rfl, Nat.le_of_ble_eq_true rfl⟩
  refine callF_core (rest := [Value.ref (base + 103)]) (va_runI (As := []) (b := base + 103) ⟨hx, hb, hml, hown, hg⟩ (kX11 (Q := fun n' cs' => n' = 127 ∧ (∀ j, j < 103 → cs' j = cc j) ∧ ∀ j, 103 ≤ j → j < 127 → cs' j = LW j) hT (fun cs' q1 q2 => ⟨rfl, q1, q2⟩) l D dA base) ⟨hcb, rfl, hg _ im_X11⟩ ⟨PcF_blind, PcF_at K Ns hz hP⟩ rfl rfl hl.1 rfl (lv_room (Nat.le_of_ble_eq_true rfl)) dL_law_12 ⟨Nat.le_of_ble_eq_true rfl, Nat.le_of_ble_eq_true rfl⟩) hS ?_
  rintro _ cd H127 locs127 ⟨rfl, hO127, hN127⟩ hz hP hS
  refine lv_astore_n (lv' := [(2, .ref (base + 103)), (1, .ref (base + 0)), (0, .ref b)]) hx hb dL_law_15 rfl hl (by decide) rfl (fun ls hl => ?_)
  refine lv_iconst (v := 0) hx hb dL_law_16 (by decide) ?_
  refine lv_istore_n (lv' := [(3, .int 0), (2, .ref (base + 103)), (1, .ref (base + 0)), (0, .ref b)]) hx hb dL_law_17 rfl hl (by decide) rfl (fun ls hl => ?_)
  have hfin : ∀ j, j < 127 → cd j = LW j := by
    intro j hj
    by_cases q : j < 103
    · rw [hO127 j q, ← hcc, cu_ne (by omega)]
      exact hN103 j (by omega) q
    · exact hN127 j (by omega) hj
  have hAn : ∀ a : Nat, a < s.heap.size → ¬ (fun q => base ≤ q) a := fun a h1 h2 => by have h2 : base ≤ a := h2; omega
  obtain ⟨tW, zW, vW⟩ := st_W hts hgv hAn
  obtain ⟨tF, zF, vF⟩ := st_F hts hgv hAn
  obtain ⟨tP, zP, vP⟩ := st_P hts hgv hAn
  have hPw : va_P D vwCl (ws (D, adL base tW tF tP b, dA) h0) H127 := by
    intro k q hq
    obtain ⟨hk, rfl⟩ := ws_of hq
    refine okC_at hk ?_
    have h1 := hP (perm k) _ (wsF_at (perm_lt k hk))
    rw [hfin _ (perm_lt k hk)] at h1
    exact h1
  have hDw : va_D (fun q => base ≤ q) (ws (D, adL base tW tF tP b, dA) h0) := by
    refine ⟨fun i j p q hp hq hpq => ?_, fun k q hq => ?_⟩
    · obtain ⟨h1, rfl⟩ := ws_of hp
      obtain ⟨h2, rfl⟩ := ws_of hq
      have hpq : adL base tW tF tP b i = adL base tW tF tP b j := hpq
      rw [adL_lt h1, adL_lt h2] at hpq
      exact perm_inj i h1 j h2 (by omega)
    · obtain ⟨h1, rfl⟩ := ws_of hq
      show base ≤ adL base tW tF tP b k
      rw [adL_lt h1]
      omega
  refine hE wfh_h0 (fun q hq => by
    simp only [List.mem_cons, List.not_mem_nil, or_false] at hq
    rcases hq with rfl | rfl | rfl | rfl
    · trivial
    · trivial
    · trivial
    · exact rg0) (fun _ q => by cases q) p l e room_1 s m #[Value.ref b] below meth c H127 _ _ _ ls (D, adL base tW tF tP b, dA) (fun q => base ≤ q) (lw_Z below #[Value.ref b] s) ⟨hx, hb, hml, hown, hg⟩ ⟨K, fun q hq => by rw [hbase]; exact hq, ⟨⟨zW, vW⟩, ⟨zF, vF⟩, ⟨zP, vP⟩⟩, Nt, ?_⟩ ⟨Nat.le_of_ble_eq_true rfl, Nat.le_of_ble_eq_true rfl, Nat.le_of_ble_eq_true rfl, Nat.le_of_ble_eq_true rfl⟩ ⟨hPw, hDw, hS⟩ (lv_sub hl [3, 2, 1, 0] rfl) ?_
  · intro b' L' xs' hq
    cases hq
    exact ⟨rfl, hX, hbl, hAn b hbl⟩
  · intro r h' H' locs' ls' pc' hq hw hv D' hr
    obtain ⟨x9, rfl, rfl⟩ := hq
    refine W.widen (k := 600000) (n := 7302250) (Nat.le_of_ble_eq_true rfl) (Nat.le_of_ble_eq_true rfl) ?_
    refine va_forget (fun q hq => by have h1 : base ≤ q.base := D'.2.2.2.2 q hq; omega) ?_
    exact lw_ret hx hb hr0 hlocks hr.1
