section ED
variable {d : Nat} {M : MD} {pc : Nat} {lv : List (Nat × AV)} {st : List AV} {h : Hp} {Q : Option AV → Hp → Prop}
theorem E_invVI {M' : MD} {n idx d' ci : Nat} {a : Int} {stk : List AV} (As : List AV) (hd : decode M.2.1 pc = .ok (.invokevirtual idx, 3)) (hm : MFv M' n) (hl : Cond.methodLink M.1.cls idx M'.1 ∈ gtb) (ha : isC a 0 ci) (hci : (vwCl[ci]?).map (fun q => q.1) = some M'.1.cls) (hdd : d' < d) (hn : As.length = n) (hs : stk = As.reverse ++ vr a :: st) (hcs : csum st ≤ 8) (k : CI d' M' (vr a :: As) h (fun x h' => E d M (pc + 3) lv (vi x :: st) h' Q)) : E d M pc lv stk h Q := E_invV As hd hm hl ha hci hdd hn hs hcs (Ct_mono k (fun r h' ⟨x, e1, e2⟩ => by subst e1; exact e2))
theorem E_invVL {M' : MD} {n idx d' ci : Nat} {a : Int} {stk : List AV} (As : List AV) (hd : decode M.2.1 pc = .ok (.invokevirtual idx, 3)) (hm : MFv M' n) (hl : Cond.methodLink M.1.cls idx M'.1 ∈ gtb) (ha : isC a 0 ci) (hci : (vwCl[ci]?).map (fun q => q.1) = some M'.1.cls) (hdd : d' < d) (hn : As.length = n) (hs : stk = As.reverse ++ vr a :: st) (hcs : csum st ≤ 8) (k : CL d' M' (vr a :: As) h (fun x h' => E d M (pc + 3) lv (vl x :: st) h' Q)) : E d M pc lv stk h Q := E_invV As hd hm hl ha hci hdd hn hs hcs (Ct_mono k (fun r h' ⟨x, e1, e2⟩ => by subst e1; exact e2))
theorem E_invVV {M' : MD} {n idx d' ci : Nat} {a : Int} {stk : List AV} (As : List AV) (hd : decode M.2.1 pc = .ok (.invokevirtual idx, 3)) (hm : MFv M' n) (hl : Cond.methodLink M.1.cls idx M'.1 ∈ gtb) (ha : isC a 0 ci) (hci : (vwCl[ci]?).map (fun q => q.1) = some M'.1.cls) (hdd : d' < d) (hn : As.length = n) (hs : stk = As.reverse ++ vr a :: st) (hcs : csum st ≤ 8) (k : CV d' M' (vr a :: As) h (fun h' => E d M (pc + 3) lv st h' Q)) : E d M pc lv stk h Q := E_invV As hd hm hl ha hci hdd hn hs hcs (Ct_mono k (fun r h' ⟨e1, e2⟩ => by subst e1; exact e2))
theorem E_invSI {M' : MD} {n idx d' : Nat} {stk : List AV} (As : List AV) (hd : decode M.2.1 pc = .ok (.invokestatic idx, 3)) (hm : MFs M' n) (hl : Cond.methodLink M.1.cls idx M'.1 ∈ gtb) (hdd : d' < d) (hn : As.length = n) (hs : stk = As.reverse ++ st) (hcs : csum st ≤ 8) (k : CI d' M' As h (fun x h' => E d M (pc + 3) lv (vi x :: st) h' Q)) : E d M pc lv stk h Q := E_invS As hd hm hl hdd hn hs hcs (Ct_mono k (fun r h' ⟨x, e1, e2⟩ => by subst e1; exact e2))
theorem E_invSL {M' : MD} {n idx d' : Nat} {stk : List AV} (As : List AV) (hd : decode M.2.1 pc = .ok (.invokestatic idx, 3)) (hm : MFs M' n) (hl : Cond.methodLink M.1.cls idx M'.1 ∈ gtb) (hdd : d' < d) (hn : As.length = n) (hs : stk = As.reverse ++ st) (hcs : csum st ≤ 8) (k : CL d' M' As h (fun x h' => E d M (pc + 3) lv (vl x :: st) h' Q)) : E d M pc lv stk h Q := E_invS As hd hm hl hdd hn hs hcs (Ct_mono k (fun r h' ⟨x, e1, e2⟩ => by subst e1; exact e2))
theorem E_invSV {M' : MD} {n idx d' : Nat} {stk : List AV} (As : List AV) (hd : decode M.2.1 pc = .ok (.invokestatic idx, 3)) (hm : MFs M' n) (hl : Cond.methodLink M.1.cls idx M'.1 ∈ gtb) (hdd : d' < d) (hn : As.length = n) (hs : stk = As.reverse ++ st) (hcs : csum st ≤ 8) (k : CV d' M' As h (fun h' => E d M (pc + 3) lv st h' Q)) : E d M pc lv stk h Q := E_invS As hd hm hl hdd hn hs hcs (Ct_mono k (fun r h' ⟨e1, e2⟩ => by subst e1; exact e2))
theorem E_invNI {M' : MD} {n idx d' : Nat} {stk : List AV} (As : List AV) (hd : decode M.2.1 pc = .ok (.invokestatic idx, 3)) (hm : MFs M' n) (hl : Cond.methodLinkNest M.1.cls idx M'.1 RX10 ∈ nestW) (hdd : d' < d) (hn : As.length = n) (hs : stk = As.reverse ++ st) (hcs : csum st ≤ 8) (k : CI d' M' As h (fun x h' => E d M (pc + 3) lv (vi x :: st) h' Q)) : E d M pc lv stk h Q := E_invN As hd hm hl hdd hn hs hcs (Ct_mono k (fun r h' ⟨x, e1, e2⟩ => by subst e1; exact e2))
theorem E_invNL {M' : MD} {n idx d' : Nat} {stk : List AV} (As : List AV) (hd : decode M.2.1 pc = .ok (.invokestatic idx, 3)) (hm : MFs M' n) (hl : Cond.methodLinkNest M.1.cls idx M'.1 RX10 ∈ nestW) (hdd : d' < d) (hn : As.length = n) (hs : stk = As.reverse ++ st) (hcs : csum st ≤ 8) (k : CL d' M' As h (fun x h' => E d M (pc + 3) lv (vl x :: st) h' Q)) : E d M pc lv stk h Q := E_invN As hd hm hl hdd hn hs hcs (Ct_mono k (fun r h' ⟨x, e1, e2⟩ => by subst e1; exact e2))
theorem E_invNV {M' : MD} {n idx d' : Nat} {stk : List AV} (As : List AV) (hd : decode M.2.1 pc = .ok (.invokestatic idx, 3)) (hm : MFs M' n) (hl : Cond.methodLinkNest M.1.cls idx M'.1 RX10 ∈ nestW) (hdd : d' < d) (hn : As.length = n) (hs : stk = As.reverse ++ st) (hcs : csum st ≤ 8) (k : CV d' M' As h (fun h' => E d M (pc + 3) lv st h' Q)) : E d M pc lv stk h Q := E_invN As hd hm hl hdd hn hs hcs (Ct_mono k (fun r h' ⟨e1, e2⟩ => by subst e1; exact e2))
theorem E_mmax {x y : Int} {idx : Nat} (hd : decode M.2.1 pc = .ok (.invokestatic idx, 3)) (hl : Cond.methodLink M.1.cls idx Lib.Math.max.name ∈ gtb) (hdd : 0 < d) (hcs : csum st ≤ 8) (k : E d M (pc + 3) lv (vi (if x < y then y else x) :: st) h Q) : E d M pc lv (vi y :: vi x :: st) h Q := by
  intro w1 w2 w3 p l e R s m args below meth c H locs cells slots ls G A Z C K Rr D L hret
  have hy : rg y := w3 (vi y) List.mem_cons_self
  have hx : rg x := w3 (vi x) (List.mem_cons_of_mem _ List.mem_cons_self)
  have hr : rg (if x < y then y else x) := by split <;> assumption
  have k := k w1 w2 (wst hr (fun v hv => w3 v (List.mem_cons_of_mem _ (List.mem_cons_of_mem _ hv)))) p l e R s m args below meth c H locs cells slots ls G A Z C K Rr D L hret
  refine va_mmax C.1 C.2.1 (by rw [C.2.2.1]; exact L.1.symm) C.2.2.2.1 (C.2.2.2.2 _ hl) (C.2.2.2.2 _ ma_max_s) (C.2.2.2.2 _ ma_ini) (C.2.2.2.2 _ ma_max_c) (by have := Rr.1; omega) (by have := Rr.2.1; rw [csum_rv]; omega) Rr.2.2.1 Rr.2.2.2 hd ?_
  have e1 : (if Int32.ofInt x < Int32.ofInt y then Int32.ofInt y else Int32.ofInt x) = Int32.ofInt (if x < y then y else x) := by
    simp only [o32_lt hx hy]
    split <;> rfl
  first | (rw [e1]; exact k) | (simp only [gt_iff_lt] at e1; rw [e1]; exact k)
theorem E_mmin {x y : Int} {idx : Nat} (hd : decode M.2.1 pc = .ok (.invokestatic idx, 3)) (hl : Cond.methodLink M.1.cls idx Lib.Math.min.name ∈ gtb) (hdd : 0 < d) (hcs : csum st ≤ 8) (k : E d M (pc + 3) lv (vi (if x > y then y else x) :: st) h Q) : E d M pc lv (vi y :: vi x :: st) h Q := by
  intro w1 w2 w3 p l e R s m args below meth c H locs cells slots ls G A Z C K Rr D L hret
  have hy : rg y := w3 (vi y) List.mem_cons_self
  have hx : rg x := w3 (vi x) (List.mem_cons_of_mem _ List.mem_cons_self)
  have hr : rg (if x > y then y else x) := by split <;> assumption
  have k := k w1 w2 (wst hr (fun v hv => w3 v (List.mem_cons_of_mem _ (List.mem_cons_of_mem _ hv)))) p l e R s m args below meth c H locs cells slots ls G A Z C K Rr D L hret
  refine va_mmin C.1 C.2.1 (by rw [C.2.2.1]; exact L.1.symm) C.2.2.2.1 (C.2.2.2.2 _ hl) (C.2.2.2.2 _ ma_min_s) (C.2.2.2.2 _ ma_ini) (C.2.2.2.2 _ ma_min_c) (by have := Rr.1; omega) (by have := Rr.2.1; rw [csum_rv]; omega) Rr.2.2.1 Rr.2.2.2 hd ?_
  have e1 : (if Int32.ofInt x > Int32.ofInt y then Int32.ofInt y else Int32.ofInt x) = Int32.ofInt (if x > y then y else x) := by
    simp only [o32_gt hx hy]
    split <;> rfl
  first | (rw [e1]; exact k) | (simp only [gt_iff_lt] at e1; rw [e1]; exact k)
/-- System.arraycopy of int arrays, from the beginning -/
def cpy (h : Hp) (a b n : Int) : Hp := fun x y => if x = b ∧ 0 ≤ y ∧ y < n then h a y else h x y
theorem E_copy {a b nn : Int} {n n' idx : Nat} (hd : decode M.2.1 pc = .ok (.invokestatic idx, 3)) (hl : Cond.methodLink M.1.cls idx arraycopyName ∈ gtb) (hdd : 2 < d) (hcs : csum st ≤ 8) (ha : isC a 1 n) (hb : isC b 1 n') (h0 : 0 ≤ nn) (h1 : nn ≤ n) (h2 : nn ≤ n') (k : E d M (pc + 3) lv st (cpy h a b nn) Q) : E d M pc lv (vi nn :: vi 0 :: vr b :: vi 0 :: vr a :: st) h Q := by
  intro w1 w2 w3 p l e R s m args below meth c H locs cells slots ls G A Z C K Rr D L hret
  have hr : rg nn := w3 (vi nn) List.mem_cons_self
  have w4 : ∀ v ∈ st, wfv v := fun v hv => w3 v (List.mem_cons_of_mem _ (List.mem_cons_of_mem _ (List.mem_cons_of_mem _ (List.mem_cons_of_mem _ (List.mem_cons_of_mem _ hv)))))
  have e0 : (Int32.ofInt 0).toNatClampNeg = 0 := by decide
  have en : (Int32.ofInt nn).toNatClampNeg = nn.toNat := o32_clamp hr
  have hng : ¬ Int32.ofInt nn < 0 := by rw [o32_0, o32_lt hr rg0]; omega
  have e9 : nativeFrameWords "java/lang/System" "arraycopy" 5 ≤ 100 := by decide
  have hloc : ((st.map (rv G.2.1)).map fun v => v.category).sum + (nativeFrameWords "java/lang/System" "arraycopy" 5 + 11) ≤ R.locals := by
    have := Rr.2.1
    rw [csum_rv]
    omega
  have hz : ¬ Int32.ofInt 0 < 0 := by decide
  refine va_copyi (R := R) (rest := st.map (rv G.2.1)) (sp := Int32.ofInt 0) (dp := Int32.ofInt 0) (n := Int32.ofInt nn) C.1 C.2.1 (by rw [C.2.2.1]; exact L.1.symm) C.2.2.2.1 (C.2.2.2.2 _ hl) (C.2.2.2.2 _ ac_n) (C.2.2.2.2 _ ac_s) (C.2.2.2.2 _ ac_i) K.1 D.1 D.2.1 D.2.2 a.toNat b.toNat 0 0 (cell_arr ha) (cell_arr hb) (ty := .int) rfl rfl rfl hz hz hng (by rw [e0, en]; omega) (by rw [e0, en]; omega) (fun i hi => rfl) (by have := Rr.1; omega) hloc hd (fun H1 locs1 hP hD hS => ?_)
  refine k ?_ w2 w4 p l e R s m args below meth c H1 locs1 cells slots ls G A Z C K Rr (Wd_up hb.1 hb.lt ?_ (fun x hx y => ?_) hP hD hS) L hret
  · intro x y
    unfold cpy
    by_cases hq : x = b ∧ 0 ≤ y ∧ y < nn
    · rw [if_pos hq]
      refine ⟨fun q => absurd q ?_, fun _ => (w1 a y).2 (lgS_arr ha (by decide) (by decide))⟩
      rw [hq.1]
      exact lgS_arr hb (by decide) (by decide)
    · rw [if_neg hq]
      exact w1 x y
  · unfold cellE
    rw [hb.2, hb.nn, e0, en]
    show (Sum.inl (G.2.2 0, n', Sum.inl (fun j : Nat => Int32.ofInt (cpy h a b nn b j))) : va_E) = _
    congr 4
    funext j
    unfold cpy va_cpy
    by_cases hj : j < nn.toNat
    · rw [if_pos ⟨rfl, by omega, by omega⟩, if_pos ⟨Nat.zero_le _, by omega⟩]
      simp
    · rw [if_neg (fun q => hj (by omega)), if_neg (fun q => hj (by omega))]
  · unfold cpy
    rw [if_neg (fun q => hx q.1)]
theorem E_getsW {idx : Nat} (hd : decode M.2.1 pc = .ok (.getstatic idx, 3)) (hl : Cond.fieldLink M.1.cls idx "ComparatorNetworks$Sweep" "WORD_LANES" "[J" ∈ gtb) (k : E d M (pc + 3) lv (vr 127 :: st) h Q) : E d M pc lv st h Q := by
  intro w1 w2 w3 p l e R s m args below meth c H locs cells slots ls G A Z C K Rr D L hret
  exact va_gets C.1 C.2.1 K.2.2.1.1.1 D.2.2 C.2.2.2.1 (C.2.2.2.2 _ hl) (fun _ q => q) hd (k w1 w2 (wst trivial w3) p l e R s m args below meth c H locs cells slots ls G A Z C K Rr D L hret)
theorem E_tabW {i : Int} (hd : decode M.2.1 pc = .ok (.laload, 1)) (h0 : 0 ≤ i) (hi : i < 6) (k : E d M (pc + 1) lv (vl (wlv i.toNat).toInt :: st) h Q) : E d M pc lv (vi i :: vr 127 :: st) h Q := by
  intro w1 w2 w3 p l e R s m args below meth c H locs cells slots ls G A Z C K Rr D L hret
  have hr : rg i := w3 (vi i) List.mem_cons_self
  have k := k w1 w2 (wst (rgL_toInt _) (fun v hv => w3 v (List.mem_cons_of_mem _ (List.mem_cons_of_mem _ hv)))) p l e R s m args below meth c H locs cells slots ls G A Z C K Rr D L hret
  refine va_tl C.1 C.2.1 K.2.2.1.1.2 D.2.2 (o32_in h0 hi hr) (v := .long (Int64.ofInt (wlv i.toNat).toInt)) (by rw [o32_clamp hr, Int64.ofInt_toInt]) hd ?_
  exact k
theorem E_getsF {idx : Nat} (hd : decode M.2.1 pc = .ok (.getstatic idx, 3)) (hl : Cond.fieldLink M.1.cls idx "ComparatorNetworks$Chains" "FACTORIALS" "[I" ∈ gtb) (k : E d M (pc + 3) lv (vr 128 :: st) h Q) : E d M pc lv st h Q := by
  intro w1 w2 w3 p l e R s m args below meth c H locs cells slots ls G A Z C K Rr D L hret
  exact va_gets C.1 C.2.1 K.2.2.1.2.1.1 D.2.2 C.2.2.2.1 (C.2.2.2.2 _ hl) (fun _ q => q) hd (k w1 w2 (wst trivial w3) p l e R s m args below meth c H locs cells slots ls G A Z C K Rr D L hret)
theorem E_tabF {i : Int} (hd : decode M.2.1 pc = .ok (.iaload, 1)) (h0 : 0 ≤ i) (hi : i < 9) (k : E d M (pc + 1) lv (vi (fav i.toNat) :: st) h Q) : E d M pc lv (vi i :: vr 128 :: st) h Q := by
  intro w1 w2 w3 p l e R s m args below meth c H locs cells slots ls G A Z C K Rr D L hret
  have hr : rg i := w3 (vi i) List.mem_cons_self
  have hrv : rg (fav i.toNat) := by unfold fav rg; split <;> omega
  have k := k w1 w2 (wst hrv (fun v hv => w3 v (List.mem_cons_of_mem _ (List.mem_cons_of_mem _ hv)))) p l e R s m args below meth c H locs cells slots ls G A Z C K Rr D L hret
  refine va_ti C.1 C.2.1 K.2.2.1.2.1.2 D.2.2 (o32_in h0 hi hr) (v := .int (Int32.ofInt (fav i.toNat))) (by rw [o32_clamp hr]) hd ?_
  exact k
theorem E_getsP {idx : Nat} (hd : decode M.2.1 pc = .ok (.getstatic idx, 3)) (hl : Cond.fieldLink M.1.cls idx "ComparatorNetworks$Shelf" "PARENTS" "[I" ∈ gtb) (k : E d M (pc + 3) lv (vr 129 :: st) h Q) : E d M pc lv st h Q := by
  intro w1 w2 w3 p l e R s m args below meth c H locs cells slots ls G A Z C K Rr D L hret
  exact va_gets C.1 C.2.1 K.2.2.1.2.2.1 D.2.2 C.2.2.2.1 (C.2.2.2.2 _ hl) (fun _ q => q) hd (k w1 w2 (wst trivial w3) p l e R s m args below meth c H locs cells slots ls G A Z C K Rr D L hret)
theorem E_tabP {i : Int} (hd : decode M.2.1 pc = .ok (.iaload, 1)) (h0 : 0 ≤ i) (hi : i < 6) (k : E d M (pc + 1) lv (vi (pav i.toNat) :: st) h Q) : E d M pc lv (vi i :: vr 129 :: st) h Q := by
  intro w1 w2 w3 p l e R s m args below meth c H locs cells slots ls G A Z C K Rr D L hret
  have hr : rg i := w3 (vi i) List.mem_cons_self
  have hrv : rg (pav i.toNat) := by unfold pav rg; split <;> omega
  have k := k w1 w2 (wst hrv (fun v hv => w3 v (List.mem_cons_of_mem _ (List.mem_cons_of_mem _ hv)))) p l e R s m args below meth c H locs cells slots ls G A Z C K Rr D L hret
  refine va_ti C.1 C.2.1 K.2.2.1.2.2.2 D.2.2 (o32_in h0 hi hr) (v := .int (Int32.ofInt (pav i.toNat))) (by rw [o32_clamp hr]) hd ?_
  exact k
/-- the law's script -/
theorem E_sld {i : Int} {b L0 : Nat} {xs : Nat → Int32} (hd : decode M.2.1 pc = .ok (.iaload, 1)) (hsc : M.2.2.2.2 = some (b, L0, xs)) (h0 : 0 ≤ i) (hi : i < L0) (k : E d M (pc + 1) lv (vi (xs i.toNat).toInt :: st) h Q) : E d M pc lv (vi i :: vr 130 :: st) h Q := by
  intro w1 w2 w3 p l e R s m args below meth c H locs cells slots ls G A Z C K Rr D L hret
  have hr : rg i := w3 (vi i) List.mem_cons_self
  obtain ⟨e1, e2, e3, e4⟩ := K.2.2.2.2 b L0 xs hsc
  have k := k w1 w2 (wst (rg_toInt _) (fun v hv => w3 v (List.mem_cons_of_mem _ (List.mem_cons_of_mem _ hv)))) p l e R s m args below meth c H locs cells slots ls G A Z C K Rr D L hret
  have e5 : rv G.2.1 (vr 130) = .ref b := by rw [e1]; rfl
  show W p l e R s m args below meth c H locs cells slots Z (F0 m pc ls (.int (Int32.ofInt i) :: rv G.2.1 (vr 130) :: st.map (rv G.2.1)))
  rw [e5]
  refine va_sld C.1 C.2.1 e2 e3 e4 D.2.2 (o32_in h0 hi hr) hd ?_
  rw [o32_clamp hr]
  have e6 : Int32.ofInt (xs i.toNat).toInt = xs i.toNat := Int32.ofInt_toInt _
  rw [← e6]
  exact k
theorem E_slen {b L0 : Nat} {xs : Nat → Int32} (hd : decode M.2.1 pc = .ok (.arraylength, 1)) (hsc : M.2.2.2.2 = some (b, L0, xs)) (hL : L0 < 2147483648) (k : E d M (pc + 1) lv (vi L0 :: st) h Q) : E d M pc lv (vr 130 :: st) h Q := by
  intro w1 w2 w3 p l e R s m args below meth c H locs cells slots ls G A Z C K Rr D L hret
  obtain ⟨e1, e2, e3, e4⟩ := K.2.2.2.2 b L0 xs hsc
  have k := k w1 w2 (wst (show rg L0 from ⟨by omega, by omega⟩) (fun v hv => w3 v (List.mem_cons_of_mem _ hv))) p l e R s m args below meth c H locs cells slots ls G A Z C K Rr D L hret
  have e5 : rv G.2.1 (vr 130) = .ref b := by rw [e1]; rfl
  show W p l e R s m args below meth c H locs cells slots Z (F0 m pc ls (rv G.2.1 (vr 130) :: st.map (rv G.2.1)))
  rw [e5]
  exact va_slen C.1 C.2.1 e2 e3 e4 D.2.2 hd k
/-- a method's contract out of its body -/
def lvA : Nat → List AV → List (Nat × AV)
  | _, [] => []
  | i, v :: vs => (i, v) :: lvA (if cat v = 2 then i + 2 else i + 1) vs
theorem lvA_args {G : GG} : ∀ (av : List AV) (i : Nat), lvr G (lvA i av) = lv_args i (av.map (rv G.2.1))
  | [], _ => rfl
  | v :: vs, i => by
    show (i, rv G.2.1 v) :: lvr G (lvA (if cat v = 2 then i + 2 else i + 1) vs) = _
    rw [lvA_args vs]
    show _ = (i, rv G.2.1 v) :: lv_args (if (rv G.2.1 v).category = 2 then i + 2 else i + 1) (vs.map (rv G.2.1))
    rw [cat_rv]
theorem lg_sl_len {G : GG} : ∀ av : List AV, (lg_sl (av.map (rv G.2.1))).length = csum av
  | [] => rfl
  | v :: vs => by
    have ih := lg_sl_len (G := G) vs
    have e1 : csum (v :: vs) = cat v + csum vs := by simp [csum]
    rw [e1, ← ih]
    rcases v with z | z | z
    · show _ = 1 + _; simp [lg_sl, rv, Value.category]; omega
    · show _ = 2 + _; simp [lg_sl, rv, Value.category]; omega
    · show _ = 1 + _; simp [lg_sl, rv, Value.category]; omega
theorem lvA_wf : ∀ (av : List AV) (i : Nat), (∀ v ∈ av, wfv v) → ∀ q ∈ lvA i av, wfv q.2
  | [], _, _, q, hq => by cases hq
  | v :: vs, i, hw, q, hq => by
    rcases List.mem_cons.mp hq with rfl | hq
    · exact hw _ List.mem_cons_self
    · exact lvA_wf vs _ (fun u hu => hw u (List.mem_cons_of_mem _ hu)) q hq
theorem Ct_of_E {n : Nat} {av : List AV} (hm : MFc M n) (hsc : M.2.2.2.2 = none) (hlen : csum av ≤ M.2.2.1) (k : E d M 0 (lvA 0 av) [] h Q) : Ct d M av h Q := by
  intro w1 w2 l G sz
  refine Met.ofW (cc := M.2.1) (maxL := M.2.2.1) (ret := M.2.2.2.1) hm.2.1.2.2.2 rfl ?_
  intro p e s m args below meth c s₁ B hml hv
  obtain ⟨rfl, hsz, hP, hD, hK, hS, hN⟩ := hv
  subst hsz
  have hts := atoms_spec (ws := wsM M) B.pre
  have hown : s.vm.findClass M.1.cls = some m.cls := findClass_of_methodNamed B.named
  have hlk := B.notSynchronized
  have hl := lv_entry (av.map (rv G.2.1)) (n := M.2.2.1) (by rw [lg_sl_len]; exact hlen)
  rw [lg_entry_eq]
  rw [← lvA_args] at hl
  refine k w1 (lvA_wf av 0 w2) (fun _ q => by cases q) p l e (rm d) s m _ below meth c s.heap [] 0 0 _ G (AA G s.heap.size) _ ⟨B.exec, B.bytes, hml, hown, fun w hw => hts w (List.mem_cons_of_mem _ hw)⟩ ⟨hK, fun q hq => Or.inr hq, hS, hN, by rw [hsc]; intro _ _ _ q; cases q⟩ ⟨Nat.le_refl _, Nat.le_refl _, Nat.le_refl _, Nat.le_refl _⟩ ⟨hP, hD, va_S.rf⟩ hl ?_
  intro r h' H' locs' ls' pc' hq hw hv D' hr
  have hr0 := B.returns
  match r, hq, hv, hr with
  | none, hq, hv, hr => exact W.vret B.exec B.bytes (by rw [hr0]; exact hr.2) (fun t ht hW => ⟨⟨none, h', rfl, hq, hw, hv, by rw [ht]; exact D'.1⟩, D'.2.2.F ht⟩) D'.2.2.2.2 hr.1
  | some (.inl x), hq, hv, hr =>
    rcases hr.2 with h1 | h1
    · exact W.iret B.exec B.bytes (by rw [hr0]; exact h1) (fun t ht hW => ⟨⟨some (vi x), h', rfl, hq, hw, hv, by rw [ht]; exact D'.1⟩, D'.2.2.F ht⟩) D'.2.2.2.2 hr.1
    · exact W.zret (ty := .boolean) B.exec B.bytes (by rw [hr0]; exact h1.1) (by rcases h1.2 with rfl | rfl <;> rfl) (fun t ht hW => ⟨⟨some (vi x), h', rfl, hq, hw, hv, by rw [ht]; exact D'.1⟩, D'.2.2.F ht⟩) D'.2.2.2.2 hr.1
  | some (.inr (.inl x)), hq, hv, hr => exact W.lret B.exec B.bytes (by rw [hr0]; exact hr.2) (fun t ht hW => ⟨⟨some (vl x), h', rfl, hq, hw, hv, by rw [ht]; exact D'.1⟩, D'.2.2.F ht⟩) D'.2.2.2.2 hr.1
  | some (.inr (.inr x)), hq, hv, hr => exact absurd hr (fun z => z)
theorem CI_of_E {n : Nat} {av : List AV} {Q : Int → Hp → Prop} (hm : MFc M n) (hsc : M.2.2.2.2 = none) (hlen : csum av ≤ M.2.2.1) (k : E d M 0 (lvA 0 av) [] h (qi Q)) : CI d M av h Q := Ct_of_E hm hsc hlen k
theorem CL_of_E {n : Nat} {av : List AV} {Q : Int → Hp → Prop} (hm : MFc M n) (hsc : M.2.2.2.2 = none) (hlen : csum av ≤ M.2.2.1) (k : E d M 0 (lvA 0 av) [] h (ql Q)) : CL d M av h Q := Ct_of_E hm hsc hlen k
theorem CV_of_E {n : Nat} {av : List AV} {Q : Hp → Prop} (hm : MFc M n) (hsc : M.2.2.2.2 = none) (hlen : csum av ≤ M.2.2.1) (k : E d M 0 (lvA 0 av) [] h (qv Q)) : CV d M av h Q := Ct_of_E hm hsc hlen k
theorem E_retI {x : Int} {Q : Int → Hp → Prop} (hd : decode M.2.1 pc = .ok (.ireturn, 1)) (hb : M.2.2.2.1 = some .int) (hq : Q x h) : E d M pc lv [vi x] h (qi Q) := E_ireturn hd (Or.inl hb) ⟨x, rfl, hq⟩
theorem E_retZ {x : Int} {Q : Int → Hp → Prop} (hd : decode M.2.1 pc = .ok (.ireturn, 1)) (hb : M.2.2.2.1 = some .boolean) (hx : x = 0 ∨ x = 1) (hq : Q x h) : E d M pc lv [vi x] h (qi Q) := E_ireturn hd (Or.inr ⟨hb, hx⟩) ⟨x, rfl, hq⟩
theorem E_retL {x : Int} {Q : Int → Hp → Prop} (hd : decode M.2.1 pc = .ok (.lreturn, 1)) (hb : M.2.2.2.1 = some .long) (hq : Q x h) : E d M pc lv [vl x] h (ql Q) := E_lreturn hd hb ⟨x, rfl, hq⟩
theorem E_retV {Q : Hp → Prop} (hd : decode M.2.1 pc = .ok (.return_, 1)) (hb : M.2.2.2.1 = none) (hq : Q h) : E d M pc lv [] h (qv Q) := E_return hd hb ⟨rfl, hq⟩
end ED
