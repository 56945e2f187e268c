/-! contracts over the abstract heap, calls -/
def AA (G : GG) (sz : Nat) : Nat → Prop := fun q => (∃ k, k < 127 ∧ q = G.2.1 k) ∨ sz ≤ q
def rm (d : Nat) : Room := { frames := d, cells := 0, slots := 0, locals := 64 * d }
def wsM (M : MD) : List Cond := Cond.code M.1 M.2.1 M.2.2.1 M.2.2.2.1 :: gtb
def PcM (G : GG) (sz : Nat) (h : Hp) (av : List AV) : Array Value → State → Prop := va_Pc (av.map (rv G.2.1)) (fun U => U.heap.size = sz ∧ va_P G.1 vwCl (ws G h) U.heap ∧ va_D (AA G sz) (ws G h) ∧ va_K G.1 vwCl (tys G) U ∧ Stt G (AA G sz) U U.heap ∧ Nst U)
def QcM (G : GG) (sz : Nat) (Q : Option AV → Hp → Prop) : Array Value → State → Outcome → State → Prop := fun _ st oc t => (∃ (r : Option AV) (h' : Hp), oc = .returned (r.map (rv G.2.1)) ∧ Q r h' ∧ wfh h' ∧ (∀ v, r = some v → wfv v) ∧ va_P G.1 vwCl (ws G h') t.heap) ∧ va_F (AA G sz) st t
def Ct (d : Nat) (M : MD) (av : List AV) (h : Hp) (Q : Option AV → Hp → Prop) : Prop := wfh h → (∀ v ∈ av, wfv v) → ∀ (l : Launch) (G : GG) (sz : Nat), Met l M.1 (wsM M) (rm d) (PcM G sz h av) (QcM G sz Q) 0 0 (AA G sz)
def CI (d : Nat) (M : MD) (av : List AV) (h : Hp) (Q : Int → Hp → Prop) : Prop := Ct d M av h (fun r h' => ∃ x, r = some (vi x) ∧ Q x h')
def CV (d : Nat) (M : MD) (av : List AV) (h : Hp) (Q : Hp → Prop) : Prop := Ct d M av h (fun r h' => r = none ∧ Q h')
def CL (d : Nat) (M : MD) (av : List AV) (h : Hp) (Q : Int → Hp → Prop) : Prop := Ct d M av h (fun r h' => ∃ x, r = some (vl x) ∧ Q x h')
def qi (Q : Int → Hp → Prop) : Option AV → Hp → Prop := fun r h' => ∃ x, r = some (vi x) ∧ Q x h'
def qv (Q : Hp → Prop) : Option AV → Hp → Prop := fun r h' => r = none ∧ Q h'
def ql (Q : Int → Hp → Prop) : Option AV → Hp → Prop := fun r h' => ∃ x, r = some (vl x) ∧ Q x h'
theorem Ct_mono {d : Nat} {M : MD} {av : List AV} {h : Hp} {Q Q' : Option AV → Hp → Prop} (k : Ct d M av h Q) (hq : ∀ r h', Q r h' → Q' r h') : Ct d M av h Q' := by
  intro w1 w2 l G sz
  refine MetFree.mono (k w1 w2 l G sz) (fun _ _ q => q) (fun _ _ _ _ _ q => q) (fun a st o t _ q => ?_)
  obtain ⟨⟨⟨r, h', e1, e2, e3⟩, e4⟩, e5⟩ := q
  exact ⟨⟨⟨r, h', e1, hq r h' e2, e3⟩, e4⟩, e5⟩
theorem CI_mono {d : Nat} {M : MD} {av : List AV} {h : Hp} {Q Q' : Int → Hp → Prop} (k : CI d M av h Q) (hq : ∀ r h', Q r h' → Q' r h') : CI d M av h Q' := Ct_mono k (fun _ h' ⟨x, e1, e2⟩ => ⟨x, e1, hq x h' e2⟩)
theorem CL_mono {d : Nat} {M : MD} {av : List AV} {h : Hp} {Q Q' : Int → Hp → Prop} (k : CL d M av h Q) (hq : ∀ r h', Q r h' → Q' r h') : CL d M av h Q' := Ct_mono k (fun _ h' ⟨x, e1, e2⟩ => ⟨x, e1, hq x h' e2⟩)
theorem CV_mono {d : Nat} {M : MD} {av : List AV} {h : Hp} {Q Q' : Hp → Prop} (k : CV d M av h Q) (hq : ∀ h', Q h' → Q' h') : CV d M av h Q' := Ct_mono k (fun _ h' ⟨e1, e2⟩ => ⟨e1, hq h' e2⟩)
theorem ws_D {G : GG} {h h' : Hp} {A B : Nat → Prop} (hD : va_D A (ws G h)) (hB : ∀ k, k < 127 → B (G.2.1 k)) : va_D B (ws G h') := by
  refine ⟨fun i j p q hp hq hpq => ?_, fun k q hq => ?_⟩
  · obtain ⟨h1, rfl⟩ := ws_of hp
    obtain ⟨h2, rfl⟩ := ws_of hq
    exact hD.1 i j _ _ (ws_at G h h1) (ws_at G h h2) hpq
  · obtain ⟨h1, rfl⟩ := ws_of hq
    exact hB k h1
theorem ws_A {G : GG} {h : Hp} {A : Nat → Prop} (hD : va_D A (ws G h)) {k : Nat} (hk : k < 127) : A (G.2.1 k) := hD.2 k _ (ws_at G h hk)
theorem AA_sub {G : GG} {h : Hp} {s : State} {A : Nat → Prop} {H : Heap} {locs : List Loc} (D : Wd G h s A H locs) (hA : ∀ q : Nat, s.heap.size ≤ q → A q) : ∀ q, AA G H.size q → A q := by
  intro q hq
  rcases hq with ⟨k, hk, rfl⟩ | hq
  · exact ws_A D.2.1 hk
  · exact hA q (Nat.le_trans D.2.2.1 hq)
theorem Stt_at {G : GG} {A B : Nat → Prop} {s U : State} {H : Heap} {locs : List Loc} (hs : Stt G A s s.heap) (hS : va_S A s.heap H locs) (hW : s.vm.Alike U.vm) (hB : ∀ q, B q → A q) (hU : U.heap = H) : Stt G B U U.heap := by
  have kz : ∀ {C n d : String} {v : Value}, va_Z C n d v A s s.heap → va_Z C n d v B U U.heap := fun hz => by
    rw [hU]
    exact ((hz.kept hS.2.1).moved hW).narrow hB
  have kt : ∀ {ty : FieldType} {t N : Nat} {f : Nat → Value}, va_T ty t N f A s s.heap → va_T ty t N f B U U.heap := fun hz => by
    rw [hU]
    exact ((hz.kept hS.2.1).moved hW).narrow hB
  exact ⟨⟨kz hs.1.1, kt hs.1.2⟩, ⟨kz hs.2.1.1, kt hs.2.1.2⟩, ⟨kz hs.2.2.1, kt hs.2.2.2⟩⟩
theorem PcM_blind {G : GG} {sz : Nat} {h : Hp} {av : List AV} : FrameBlind (PcM G sz h av) := by
  intro a U g mk q
  obtain ⟨q0, q1, q2, q3, q4, q5, q6⟩ := q
  refine ⟨q0, q1, q2, q3, va_K.moved (u := U) (U := U.calling g mk a) (Vm.Alike.refl U.vm) q4, ?_, fun w hw => nestW_same (u := U) (U := U.calling g mk a) hw rfl (q6 w hw)⟩
  have kz : ∀ {C n d : String} {v : Value}, va_Z C n d v (AA G sz) U U.heap → va_Z C n d v (AA G sz) (U.calling g mk a) (U.calling g mk a).heap := fun hz => hz.moved (U := U.calling g mk a) (Vm.Alike.refl U.vm)
  have kt : ∀ {ty : FieldType} {t N : Nat} {f : Nat → Value}, va_T ty t N f (AA G sz) U U.heap → va_T ty t N f (AA G sz) (U.calling g mk a) (U.calling g mk a).heap := fun hz => hz.moved (U := U.calling g mk a) (Vm.Alike.refl U.vm)
  exact ⟨⟨kz q5.1.1, kt q5.1.2⟩, ⟨kz q5.2.1.1, kt q5.2.1.2⟩, ⟨kz q5.2.2.1, kt q5.2.2.2⟩⟩
theorem PcM_at {G : GG} {h : Hp} {s : State} {A : Nat → Prop} {H : Heap} {locs : List Loc} {sc : Option (Nat × Nat × (Nat → Int32))} (K : Wc G sc s A) (D : Wd G h s A H locs) (av : List AV) : ∀ U : State, U.heap = H → s.WarmedH U.vm → PcM G H.size h av (av.map (rv G.2.1)).toArray U := by
  intro U hU hW
  refine ⟨rfl, by rw [hU], by rw [hU]; exact D.1, ws_D D.2.1 (fun k hk => Or.inl ⟨k, hk, rfl⟩), va_K.moved hW.alike K.1, Stt_at K.2.2.1 D.2.2 hW.alike (AA_sub D K.2.1) hU, fun w hw => nestW_warm hw hW (K.2.2.2.1 w hw)⟩
section EC
variable {d : Nat} {M : MD} {pc : Nat} {lv : List (Nat × AV)} {st : List AV} {h : Hp} {Q : Option AV → Hp → Prop}
theorem call_core {p : Program} {l : Launch} {e : Env} {R : Room} {s : State} {m : MethodId} {args : Array Value} {below : List Frame} {meth : Method} {c : Code} {H : Heap} {locs : List Loc} {cells slots : Nat} {Z : State → Prop} {ls : Array Slot} {G : GG} {A : Nat → Prop} {sc : Option (Nat × Nat × (Nat → Int32))} {st0 rest : List Value} {Q' : Option AV → Hp → Prop} {a : Array Value}
    (hr : va_Run p l e R s m args below meth c H locs cells slots 0 0 (F0 m pc ls st0) rest (QcM G H.size Q' a) (AA G H.size)) (K : Wc G sc s A) (D : Wd G h s A H locs)
    (kk : ∀ (r : Option AV) (h' : Hp) (H' : Heap) (locs' : List Loc), Q' r h' → wfh h' → (∀ v, r = some v → wfv v) → Wd G h' s A H' locs' → W p l e R s m args below meth c H' locs' cells slots Z (F0 m (pc + 3) ls (r.toList.map (rv G.2.1) ++ rest))) : W p l e R s m args below meth c H locs cells slots Z (F0 m pc ls st0) := by
  intro T hT X
  obtain ⟨v, st₀, t, T', L, h0, X', hL, e1, e2, ⟨⟨r, h', hv, hq, hw, hv2, hP'⟩, hz, hk⟩, stp⟩ := hr T hT X
  have hsub := AA_sub D K.2.1
  rw [h0] at hz hk
  have D' : Wd G h' s A T'.heap (locs ++ L) := by
    refine ⟨by rw [e1]; exact hP', ws_D D.2.1 (fun k hk => ws_A D.2.1 hk), Nat.le_trans D.2.2.1 (by rw [e1]; exact hz), fun q h1 h2 => ?_, fun q hq => ?_⟩
    · rw [e1, hk q (Nat.lt_of_lt_of_le h1 D.2.2.1) (fun z => h2 (hsub q z))]
      exact D.2.2.2.1 q h1 h2
    · rcases List.mem_append.mp hq with h1 | h1
      · exact D.2.2.2.2 q h1
      · exact hsub _ (hL q h1)
  obtain ⟨t2, a1, b1⟩ := kk r h' T'.heap (locs ++ L) hq hw hv2 D' T' rfl X'
  refine ⟨t2, stp t2 ?_, b1⟩
  cases hv
  cases r with
  | none => exact a1
  | some x => exact a1
theorem wsM_good {M' : MD} {n : Nat} (hm : MFc M' n) : GoodIn gtb (wsM M') := by
  intro w hw
  rcases List.mem_cons.mp hw with rfl | hw
  · exact ⟨hm.1, gtb_good hm.1⟩
  · exact ⟨hw, gtb_good hw⟩
theorem callB_M {M' : MD} {n idx d' : Nat} {p : Program} {R : Room} {s : State} {m : MethodId} {args : Array Value} {c : Code} {cells slots : Nat} (hm : MFc M' n) (hl : Cond.methodLink M.1.cls idx M'.1 ∈ gtb) (hdd : d' < d) (C : Cx p s m args c M) (Rr : Rm d R cells slots) : CallB R s args M.1.cls idx M'.1 M'.2.1 M'.2.2.1 M'.2.2.2.1 (wsM M') (rm d') 0 0 n := by
  refine callB_of n C.2.2.2.2 (wsM_good hm) rfl rfl rfl (C.2.2.2.2 _ hm.2.1.1) (C.2.2.2.2 _ hl) ⟨hm.2.1.2.1, hm.2.1.2.2.1, hm.2.2.1⟩ ⟨?_, ?_⟩
  · have := Rr.1
    show d' + 1 ≤ R.frames
    omega
  · have := Rr.2.1
    have h2 := hm.2.2.2
    show 8 + (M'.2.2.1 + 11) + 64 * d' ≤ R.locals
    omega
theorem wst_r {r : Option AV} (hr : ∀ v, r = some v → wfv v) (hs : ∀ v ∈ st, wfv v) : ∀ v ∈ r.toList ++ st, wfv v := by
  intro v hv
  rcases List.mem_append.mp hv with q | q
  · cases r with
    | none => simp at q
    | some x => simp at q; subst q; exact hr _ rfl
  · exact hs v q
theorem E_invV {M' : MD} {n idx d' ci : Nat} {a : Int} {stk : List AV} (As : List AV) (hd : decode M.2.1 pc = .ok (.invokevirtual idx, 3)) (hm : MFv M' n) (hl : Cond.methodLink M.1.cls idx M'.1 ∈ gtb) (ha : isC a 0 ci) (hci : (vwCl[ci]?).map (fun q => q.1) = some M'.1.cls) (hdd : d' < d) (hn : As.length = n) (hs : stk = As.reverse ++ vr a :: st) (hcs : csum st ≤ 8)
    (k : Ct d' M' (vr a :: As) h (fun r h' => E d M (pc + 3) lv (r.toList ++ st) h' Q)) : E d M pc lv stk h Q := by
  intro w1 w2 w3 p l e R s m args below meth c H locs cells slots ls G A Z C K Rr D L hret
  subst hs
  have w4 : ∀ v ∈ st, wfv v := fun v hv => w3 v (List.mem_append_right _ (List.mem_cons_of_mem _ hv))
  have w5 : ∀ v ∈ vr a :: As, wfv v := fun v hv => by
    rcases List.mem_cons.mp hv with rfl | hv
    · trivial
    · exact w3 v (List.mem_append_left _ (List.mem_reverse.mpr hv))
  obtain ⟨q, hq⟩ : ∃ q, vwCl[ci]? = some q := by
    cases hv : vwCl[ci]? with
    | none => rw [hv] at hci; cases hci
    | some q => exact ⟨q, rfl⟩
  have hqc : q.1 = M'.1.cls := by rw [hq] at hci; exact Option.some.inj hci
  have hM := k w1 w5 l G H.size
  have hrec := va_recv K.1 D.1 hq (cell_obj (G := G) (h := h) ha)
  rw [hqc] at hrec
  refine call_core (rest := st.map (rv G.2.1)) (va_runV (As := As.map (rv G.2.1)) ⟨C.1, C.2.1, C.2.2.1, C.2.2.2.1, C.2.2.2.2⟩ hM ⟨callB_M hm.1 hl hdd C Rr, C.2.2.2.2 _ hm.2.1, C.2.2.2.2 _ hm.2.2⟩ ⟨PcM_blind, hrec, PcM_at K D (vr a :: As)⟩ rfl (by rw [List.length_map]; exact hn) L.1 (by simp [List.map_append, List.map_reverse, rv]) (lv_room (by rw [csum_rv]; exact hcs)) hd ⟨Rr.2.2.1, Rr.2.2.2⟩) K D ?_
  intro r h' H' locs' hQ hw hv D'
  have k2 := hQ hw w2 (wst_r hv w4) p l e R s m args below meth c H' locs' cells slots ls G A Z C K Rr D' L hret
  rw [List.map_append] at k2
  exact k2
theorem E_invS {M' : MD} {n idx d' : Nat} {stk : List AV} (As : List AV) (hd : decode M.2.1 pc = .ok (.invokestatic idx, 3)) (hm : MFs M' n) (hl : Cond.methodLink M.1.cls idx M'.1 ∈ gtb) (hdd : d' < d) (hn : As.length = n) (hs : stk = As.reverse ++ st) (hcs : csum st ≤ 8)
    (k : Ct d' M' As h (fun r h' => E d M (pc + 3) lv (r.toList ++ st) h' Q)) : E d M pc lv stk h Q := by
  intro w1 w2 w3 p l e R s m args below meth c H locs cells slots ls G A Z C K Rr D L hret
  subst hs
  have w4 : ∀ v ∈ st, wfv v := fun v hv => w3 v (List.mem_append_right _ hv)
  have w5 : ∀ v ∈ As, wfv v := fun v hv => w3 v (List.mem_append_left _ (List.mem_reverse.mpr hv))
  have hM := k w1 w5 l G H.size
  refine call_core (rest := st.map (rv G.2.1)) (va_runS (As := As.map (rv G.2.1)) ⟨C.1, C.2.1, C.2.2.1, C.2.2.2.1, C.2.2.2.2⟩ hM ⟨callB_M hm.1 hl hdd C Rr, C.2.2.2.2 _ hm.2⟩ ⟨PcM_blind, PcM_at K D As⟩ rfl (by rw [List.length_map]; exact hn) L.1 (by simp [List.map_append, List.map_reverse]) (lv_room (by rw [csum_rv]; exact hcs)) hd ⟨Rr.2.2.1, Rr.2.2.2⟩) K D ?_
  intro r h' H' locs' hQ hw hv D'
  have k2 := hQ hw w2 (wst_r hv w4) p l e R s m args below meth c H' locs' cells slots ls G A Z C K Rr D' L hret
  rw [List.map_append] at k2
  exact k2
theorem E_invN {M' : MD} {n idx d' : Nat} {stk : List AV} (As : List AV) (hd : decode M.2.1 pc = .ok (.invokestatic idx, 3)) (hm : MFs M' n) (hl : Cond.methodLinkNest M.1.cls idx M'.1 RX10 ∈ nestW) (hdd : d' < d) (hn : As.length = n) (hs : stk = As.reverse ++ st) (hcs : csum st ≤ 8)
    (k : Ct d' M' As h (fun r h' => E d M (pc + 3) lv (r.toList ++ st) h' Q)) : E d M pc lv stk h Q := by
  intro w1 w2 w3 p l e R s m args below meth c H locs cells slots ls G A Z C K Rr D L hret
  subst hs
  have w4 : ∀ v ∈ st, wfv v := fun v hv => w3 v (List.mem_append_right _ hv)
  have w5 : ∀ v ∈ As, wfv v := fun v hv => w3 v (List.mem_append_left _ (List.mem_reverse.mpr hv))
  have hM := k w1 w5 l G H.size
  have hcn : va_CN R s args M.1.cls idx M'.1 RX10 M'.2.1 M'.2.2.1 M'.2.2.2.1 (wsM M') (rm d') 0 0 n := by
    refine va_cnB n C.2.2.2.2 (wsM_good hm.1) rfl rfl rfl (K.2.2.2.1 _ hl) (C.2.2.2.2 _ hm.1.2.1.1) ⟨hm.1.2.1.2.1, hm.1.2.1.2.2.1, hm.1.2.2.1⟩ ⟨?_, ?_⟩
    · have := Rr.1
      show d' + 1 ≤ R.frames
      omega
    · have := Rr.2.1
      have h2 := hm.1.2.2.2
      show 8 + (M'.2.2.1 + 11) + 64 * d' ≤ R.locals
      omega
  refine call_core (rest := st.map (rv G.2.1)) (va_runSN (As := As.map (rv G.2.1)) ⟨C.1, C.2.1, C.2.2.1, C.2.2.2.1, C.2.2.2.2⟩ hM ⟨hcn, C.2.2.2.2 _ hm.2, trivial⟩ ⟨PcM_blind, PcM_at K D As⟩ rfl (by rw [List.length_map]; exact hn) L.1 (by simp [List.map_append, List.map_reverse]) (lv_room (by rw [csum_rv]; exact hcs)) hd ⟨Rr.2.2.1, Rr.2.2.2⟩) K D ?_
  intro r h' H' locs' hQ hw hv D'
  have k2 := hQ hw w2 (wst_r hv w4) p l e R s m args below meth c H' locs' cells slots ls G A Z C K Rr D' L hret
  rw [List.map_append] at k2
  exact k2
end EC
