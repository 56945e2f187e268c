section FM
variable {d mc ms : Nat} {M : MD} {pc : Nat} {lv : List (Nat × AV)} {st : List AV} {n : Nat} {cs : Nat → CDs} {c sl : Nat} {Q : Nat → (Nat → CDs) → Prop}
/-- a field of an object, in its constructor -/
def FPF (own : String) (idx ci j t : Nat) (ty : FieldType) : Prop := ∃ (C : String) (T : u_T) (N : Nat) (ty0 : Nat → FieldType), vwCl[ci]? = some (C, T, N) ∧ (∀ w ∈ u_ws C T N, w ∈ gtb) ∧ j < N ∧ Cond.fieldLink own idx (T j).1 (T j).2.1 (T j).2.2.1 ∈ gtb ∧ (ftL.getD ci [])[j]? = some t ∧ (∀ k, k < N → parseFieldDescriptor (T k).2.2.1 = some (ty0 k)) ∧ (∀ a, a < N → ∀ b, b < N → a ≠ b → (T a).2.1 ≠ (T b).2.1) ∧ (T j).1 = own ∧ ty0 j = ty
def fu (f : Nat → FV) (j : Nat) (v : FV) : Nat → FV := fun k => if k = j then v else f k
theorem fsF_at {base ci j t : Nat} {f : Nat → FV} (hf : (ftL.getD ci [])[j]? = some t) : (fsF base ci f)[j]? = some (fvv base t (f j)) := by
  unfold fsF
  rw [List.getElem?_mapIdx, hf]
  rfl
theorem fsF_set {base ci j t : Nat} {f : Nat → FV} {v : FV} (hf : (ftL.getD ci [])[j]? = some t) : (fsF base ci f).set j (fvv base t v) = fsF base ci (fu f j v) := by
  refine List.ext_getElem? fun m => ?_
  rw [List.getElem?_set]
  by_cases hm : j = m
  · subst hm
    rw [if_pos rfl, if_pos (List.getElem?_eq_some_iff.mp (fsF_at (base := base) (f := f) hf)).1, fsF_at hf]
    simp [fu]
  · rw [if_neg hm]
    unfold fsF
    rw [List.getElem?_mapIdx, List.getElem?_mapIdx]
    have : ¬ m = j := fun q => hm q.symm
    simp [fu, this]
theorem F_putv {i idx ci j t : Nat} {f : Nat → FV} {ty : FieldType} {v : AV} {fv : FV} (hd : decode M.2.1 pc = .ok (.putfield idx, 3)) (hf : FPF M.1.cls idx ci j t ty) (hi : i < n) (hc : cs i = cO ci f) (hv : ∀ base, rF base v = fvv base t fv) (hn : ∀ base, narrow ty (fvv base t fv) = fvv base t fv) (hfit : ∀ base, fits ty (fvv base t fv) = true) {cs' : Nat → CDs} (hcs : cu cs i (cO ci (fu f j fv)) = cs') (k : Fj d mc ms M (pc + 3) lv st n cs' c sl Q) : Fj d mc ms M pc lv (v :: vr i :: st) n cs c sl Q := by
  intro p l e s m args below meth cc H locs ls D dA base C K Ns hbs hin hret hlk hz hP hS L
  subst hcs
  obtain ⟨C0, T, N, ty0, hcl, hin2, hj, hlk2, hft, hty, hnm, hown2, htj⟩ := hf
  have he : (wsF dA base n cs)[i]? = some (base + i, .inr (ci, fsF base ci f)) := by rw [wsF_at hi, hc]; rfl
  have hln : j < (fsF base ci f).length := (List.getElem?_eq_some_iff.mp (fsF_at (base := base) (f := f) hft)).1
  have key : ∀ (H1 : Heap) (locs1 : List Loc), va_P D vwCl ((wsF dA base n cs).set i (base + i, .inr (ci, (fsF base ci f).set j (fvv base t fv)))) H1 → H1.size = H.size → va_S (fun q => base ≤ q) s.heap H1 locs1 → W p l e (rmF d mc ms) s m args below meth cc H1 locs1 c sl (MQ below (QcF D dA base Q) args s mc ms (fun q => base ≤ q)) (F0 m (pc + 3) ls (st.map (rF base))) := by
    intro H1 locs1 hP1 hz1 hS1
    rw [fsF_set hft] at hP1
    have e2 : (wsF dA base n cs).set i (base + i, .inr (ci, fsF base ci (fu f j fv))) = wsF dA base n (cu cs i (cO ci (fu f j fv))) := wsF_set (c := cO ci (fu f j fv))
    rw [e2] at hP1
    exact k p l e s m args below meth cc H1 locs1 ls D dA base C K Ns hbs hin hret hlk (by rw [hz1]; exact hz) hP1 hS1 L
  have hst : (v :: vr i :: st).map (rF base) = fvv base t fv :: .ref (base + i) :: st.map (rF base) := by
    show rF base v :: rF base (vr i) :: st.map (rF base) = _
    rw [hv base]
    rfl
  rw [hst]
  have hap := va_apart (own := M.1.cls) C.2.2.2.2 hin2 ty0 hty hnm K hcl
  obtain ⟨r, h1, cell, q1, q2, q3, q4⟩ := hP i _ he
  have hr : r = (C0, T, N) := Option.some.inj (h1.symm.trans hcl)
  subst hr
  obtain ⟨hSl, hfc, kC, hkC, hkind⟩ := K.1 ci _ hcl
  obtain ⟨cf, kf, fi, f0, hi0, hsl⟩ := hSl j hj
  have hlay := C.2.2.2.2 _ (hin2 _ (u_in_lay hj))
  have hstt := (u_facts hfc hkC (u_lays C.2.2.2.2 hin2 hj) hi0).1
  have hd2 : parseFieldDescriptor (T j).2.2.1 = some ty := by rw [hty j hj, htj]
  unfold u_lay at hlay
  by_cases hfin : (T j).2.2.2 = true
  · rw [if_pos hfin] at hlay
    have hcf : m.cls = cf := by
      obtain ⟨_, _, c', _, _, _, -, -, hf', -, -, -, hown3, -⟩ := Cond.laysFinal_spec hlay
      have e1 : c' = cf := by have := hi0.symm.trans hf'; simp at this; exact this.1.symm
      rw [hown2] at hown3
      rw [← e1]; exact Option.some.inj (C.2.2.2.1.symm.trans hown3)
    have h6 := u_fits hfc hkC hkind (Or.inr hlay) hi0 hd2 (hn base) (hfit base)
    refine W.putFinK C.1 C.2.1 C.2.2.2.1 (C.2.2.2.2 _ hlk2) hi0 hstt hcf hin (by rw [q2]; exact h6) q1 q3 (by rw [hsl]; exact k2_hasslot (q4 j hj)) rfl rfl hd fun H' e1 e2 e3 => ?_
    rw [hsl] at e1 ⊢
    exact key H' _ (hP.set wsF_D he ⟨_, hcl, t_OB.to (V := updV (vp_V (fsF base ci f)) j (fvv base t fv)) ⟨_, e1, q2, q3, t_set q4 hap hj _⟩ (fun j _ => vp_updV_set hln _ j)⟩ e3) e2 (hS.put e2 e3 (show base ≤ base + i by omega))
  · have hfin2 : (T j).2.2.2 = false := by simpa using hfin
    rw [if_neg hfin] at hlay
    have h6 := u_store hfc hkC hkind hlay hi0 hd2 (hn base) (hfit base)
    refine W.putK C.1 C.2.1 (f := f0) ⟨C.2.2.2.1, C.2.2.2.2 _ hlk2, ⟨_, _, _, hi0⟩, hstt⟩ (by rw [q2]; exact h6) q1 q3 (by rw [hsl]; exact k2_hasslot (q4 j hj)) rfl rfl hd fun H' e1 e2 e3 => ?_
    rw [hsl] at e1 ⊢
    exact key H' _ (hP.set wsF_D he ⟨_, hcl, t_OB.to (V := updV (vp_V (fsF base ci f)) j (fvv base t fv)) ⟨_, e1, q2, q3, t_set q4 hap hj _⟩ (fun j _ => vp_updV_set hln _ j)⟩ e3) e2 (hS.put e2 e3 (show base ≤ base + i by omega))
theorem F_putI {i idx ci j : Nat} {f : Nat → FV} {z : Int} (hd : decode M.2.1 pc = .ok (.putfield idx, 3)) (hf : FPF M.1.cls idx ci j 0 .int) (hi : i < n) (hc : cs i = cO ci f) {cs' : Nat → CDs} (hcs : cu cs i (cO ci (fu f j (Sum.inl z))) = cs') (k : Fj d mc ms M (pc + 3) lv st n cs' c sl Q) : Fj d mc ms M pc lv (vi z :: vr i :: st) n cs c sl Q :=
  F_putv (v := vi z) (fv := Sum.inl z) hd hf hi hc (fun _ => rfl) (fun _ => rfl) (fun _ => rfl) hcs k
theorem F_putZ {i idx ci j : Nat} {f : Nat → FV} (hd : decode M.2.1 pc = .ok (.putfield idx, 3)) (hf : FPF M.1.cls idx ci j 0 .boolean) (hi : i < n) (hc : cs i = cO ci f) {cs' : Nat → CDs} (hcs : cu cs i (cO ci (fu f j (Sum.inl 0))) = cs') (k : Fj d mc ms M (pc + 3) lv st n cs' c sl Q) : Fj d mc ms M pc lv (vi 0 :: vr i :: st) n cs c sl Q :=
  F_putv (v := vi 0) (fv := Sum.inl 0) hd hf hi hc (fun _ => rfl) (fun _ => rfl) (fun _ => rfl) hcs k
theorem F_putR {i r idx ci j : Nat} {f : Nat → FV} {ty : FieldType} (hd : decode M.2.1 pc = .ok (.putfield idx, 3)) (hf : FPF M.1.cls idx ci j 2 ty) (ht : ∀ x, narrow ty (.ref x) = .ref x ∧ fits ty (.ref x) = true) (hi : i < n) (hc : cs i = cO ci f) {cs' : Nat → CDs} (hcs : cu cs i (cO ci (fu f j (Sum.inr (some r)))) = cs') (k : Fj d mc ms M (pc + 3) lv st n cs' c sl Q) : Fj d mc ms M pc lv (vr r :: vr i :: st) n cs c sl Q :=
  F_putv (v := vr r) (fv := Sum.inr (some r)) hd hf hi hc (fun _ => rfl) (fun _ => (ht _).1) (fun _ => (ht _).2) hcs k
theorem F_getR {i r idx ci j : Nat} {f : Nat → FV} (hd : decode M.2.1 pc = .ok (.getfield idx, 3)) (hf : FL M.1.cls idx ci j 2) (hi : i < n) (hc : cs i = cO ci f) (hr : f j = Sum.inr (some r)) (k : Fj d mc ms M (pc + 3) lv (vr r :: st) n cs c sl Q) : Fj d mc ms M pc lv (vr i :: st) n cs c sl Q := by
  intro p l e s m args below meth cc H locs ls D dA base C K Ns hbs hin hret hlk hz hP hS L
  obtain ⟨C0, T, N, hcl, hin2, hj, hlk2, hft⟩ := hf
  have he : (wsF dA base n cs)[i]? = some (base + i, .inr (ci, fsF base ci f)) := by rw [wsF_at hi, hc]; rfl
  refine va_get (ci := ci) (v := .ref (base + r)) (C := C0) (T := T) (N := N) C.1 C.2.1 C.2.2.2.2 hin2 C.2.2.2.1 K hP i he hcl j hj (C.2.2.2.2 _ hlk2) (fun _ q => q) (by rw [fsF_at hft, hr]; rfl) hd ?_
  exact k p l e s m args below meth cc H locs ls D dA base C K Ns hbs hin hret hlk hz hP hS L
def ru (f : Nat → Option Nat) (j : Nat) (r : Nat) : Nat → Option Nat := fun k => if k = j then some r else f k
theorem F_aast {i r t N ci : Nat} {x : Nat} {f : Nat → Option Nat} {g : Nat → FV} {CN : String} (hd : decode M.2.1 pc = .ok (.aastore, 1)) (hi : i < n) (hc : cs i = cR t N f) (hr : r < n) (hcr : cs r = cO ci g) (ht : ∀ dA, (tysF dA)[t]? = some (dA t, .object CN)) (hcn : (vwCl[ci]?).map (fun q => q.1) = some CN) (hx : x < N) (hN : N ≤ 10000) {cs' : Nat → CDs} (hcs : cu cs i (cR t N (ru f x r)) = cs') (k : Fj d mc ms M (pc + 1) lv st n cs' c sl Q) : Fj d mc ms M pc lv (vr r :: vi x :: vr i :: st) n cs c sl Q := by
  intro p l e s m args below meth cc H locs ls D dA base C K Ns hbs hin hret hlk hz hP hS L
  subst hcs
  have ha : (wsF dA base n cs)[i]? = some (base + i, .inl (dA t, N, .inr (.inr (.inr (.inr (fun j => (f j).map (fun r => base + r))))))) := by rw [wsF_at hi, hc]; rfl
  have hv : (wsF dA base n cs)[r]? = some (base + r, .inr (ci, fsF base ci g)) := by rw [wsF_at hr, hcr]; rfl
  obtain ⟨q, hq⟩ : ∃ q, vwCl[ci]? = some q := by
    cases hv : vwCl[ci]? with
    | none => rw [hv] at hcn; cases hcn
    | some q => exact ⟨q, rfl⟩
  have hqc : q.1 = CN := by rw [hq] at hcn; exact Option.some.inj hcn
  have ht2 := ht dA
  rw [← hqc] at ht2
  have hrx : rg (x : Int) := by unfold rg; omega
  have hcx : (Int32.ofInt (x : Int)).toNatClampNeg = x := by rw [o32_clamp hrx]; rfl
  have hlt : (Int32.ofInt (x : Int)).toNatClampNeg < N := by rw [hcx]; exact hx
  have h0 : ¬ Int32.ofInt (x : Int) < 0 := by rw [o32_0, o32_lt hrx rg0]; omega
  obtain ⟨r', hr', cellV, g1, g2, g3, -⟩ := hP r _ hv
  have hcls := (K.1 ci q hq).2
  obtain ⟨kA, comp, k1, k2, k3, -⟩ := (K.2 t _ ht2).2
  have hcomp : comp = D.1 ci := Option.some.inj (k3.symm.trans hcls.1)
  subst hcomp
  obtain ⟨kC, hkC, -⟩ := hcls.2
  refine W.aast C.1 C.2.1 (hP i _ ha) (fun q h => by cases h) (fun h => by cases h) k1 k2 rfl hkC ⟨h0, by show _ < (arrV _ _ _).slots.size; rw [arrV_size]; exact hlt⟩ g1 (fun q h => by rw [g3] at h; cases h) (by rw [g2]; exact hkC) (by rw [g2]; exact va_assign hcls) rfl rfl hd fun H1 e1 z1 oq => ?_
  refine k p l e s m args below meth cc H1 _ ls D dA base C K Ns hbs hin hret hlk (by rw [z1]; exact hz) ?_ (hS.put z1 oq (show base ≤ base + i by omega)) L
  have e2 := hP.set wsF_D ha (e := cvt dA base (cR t N (ru f x r))) (H1 := H1) ?_ oq
  · rw [wsF_set] at e2
    exact e2
  · show H1[base + i]? = some (vp_cell _ _)
    rw [e1]
    show some (Cell.setSlot (vp_cell _ _) _ _) = _
    rw [vp_cell_q, vp_cell_q, arrV_store, hcx]
    congr 2
    funext q
    by_cases hq : q = x
    · subst hq
      simp [updV, ru, va_rf]
    · simp [updV, ru, hq]
def iu (f : Nat → Int) (j : Nat) (v : Int) : Nat → Int := fun k => if k = j then v else f k
theorem F_iast {i N : Nat} {x : Nat} {v : Int} {f : Nat → Int} (hd : decode M.2.1 pc = .ok (.iastore, 1)) (hi : i < n) (hc : cs i = cP 0 N f) (hx : x < N) (hN : N ≤ 10000) {cs' : Nat → CDs} (hcs : cu cs i (cP 0 N (iu f x v)) = cs') (k : Fj d mc ms M (pc + 1) lv st n cs' c sl Q) : Fj d mc ms M pc lv (vi v :: vi x :: vr i :: st) n cs c sl Q := by
  intro p l e s m args below meth cc H locs ls D dA base C K Ns hbs hin hret hlk hz hP hS L
  subst hcs
  have ha : (wsF dA base n cs)[i]? = some (base + i, .inl (dA 0, N, .inl (fun j => Int32.ofInt (f j)))) := by rw [wsF_at hi, hc]; rfl
  have hrx : rg (x : Int) := by unfold rg; omega
  have hcx : (Int32.ofInt (x : Int)).toNatClampNeg = x := by rw [o32_clamp hrx]; rfl
  have hin3 : vp_in (Int32.ofInt (x : Int)) N := o32_in (by omega) (by omega) hrx
  refine W.iast C.1 C.2.1 (hP i _ ha) ((K.2 0 _ rfl).1 N (fun j => .int (Int32.ofInt (f j)))) (fun q => by cases q) (by show ¬ (_ < 0 ∨ (arrV _ _ _).slots.size ≤ _); rw [arrV_size]; exact hin3) rfl rfl hd fun H1 e1 z1 oq => ?_
  refine k p l e s m args below meth cc H1 _ ls D dA base C K Ns hbs hin hret hlk (by rw [z1]; exact hz) ?_ (hS.put z1 oq (show base ≤ base + i by omega)) L
  have e2 := hP.set wsF_D ha (e := cvt dA base (cP 0 N (iu f x v))) (H1 := H1) ?_ oq
  · rw [wsF_set] at e2
    exact e2
  · show H1[base + i]? = some (vp_cell _ _)
    rw [e1]
    show some (Cell.setSlot (vp_cell _ _) _ _) = some (vp_cell (dA 0) (N, .inl (fun j => Int32.ofInt (iu f x v j))))
    rw [vp_cell_i, vp_cell_i, arrV_store, hcx]
    congr 2
    funext q
    by_cases hq : q = x
    · subst hq
      simp [updV, iu]
    · simp [updV, iu, hq]
theorem PcF_blind {D : va_G} {dA : Nat → ClassId} {base i : Nat} : FrameBlind (PcF D dA base n cs i) := by
  intro a U g mk q
  obtain ⟨q0, q1, q2, q3, q4, q5, q6⟩ := q
  exact ⟨q0, q1, q2, va_K.moved (u := U) (U := U.calling g mk a) (Vm.Alike.refl U.vm) q3, fun w hw => initW_same (u := U) (U := U.calling g mk a) hw rfl (q4 w hw), va_AO.moved (u := U) (U := U.calling g mk a) (Vm.Alike.refl U.vm) q5, va_AO.moved (u := U) (U := U.calling g mk a) (Vm.Alike.refl U.vm) q6⟩
theorem PcF_at {D : va_G} {dA : Nat → ClassId} {base i : Nat} {s : State} {H : Heap} (K : va_K D vwCl (tysF dA) s) (Ns : Nsi s) (hz : H.size = base + n) (hP : va_P D vwCl (wsF dA base n cs) H) : ∀ U : State, U.heap = H → s.WarmedH U.vm → PcF D dA base n cs i [Value.ref (base + i)].toArray U := by
  intro U hU hW
  exact ⟨rfl, by rw [hU]; exact hz, by rw [hU]; exact hP, va_K.moved hW.alike K, fun w hw => initW_warm hw hW (Ns.1 w hw), va_AO.moved hW.alike Ns.2.1, va_AO.moved hW.alike Ns.2.2⟩
/-- behind a call of a constructor -/
theorem callF_core {p : Program} {l : Launch} {e : Env} {R : Room} {s : State} {m : MethodId} {args : Array Value} {below : List Frame} {meth : Method} {cc : Code} {H : Heap} {locs : List Loc} {Z : State → Prop} {ls : Array Slot} {D : va_G} {dA : Nat → ClassId} {base mc' ms' : Nat} {st0 rest : List Value} {Q' : Nat → (Nat → CDs) → Prop} {a : Array Value}
    (hr : va_Run p l e R s m args below meth cc H locs c sl mc' ms' (F0 m pc ls st0) rest (QcF D dA base Q' a) (fun q => base ≤ q)) (hS : va_S (fun q => base ≤ q) s.heap H locs)
    (kk : ∀ (n' : Nat) (cs' : Nat → CDs) (H' : Heap) (locs' : List Loc), Q' n' cs' → H'.size = base + n' → va_P D vwCl (wsF dA base n' cs') H' → va_S (fun q => base ≤ q) s.heap H' locs' → W p l e R s m args below meth cc H' locs' (c + mc') (sl + ms') Z (F0 m (pc + 3) ls rest)) : W p l e R s m args below meth cc H locs c sl Z (F0 m pc ls st0) := by
  intro T hT X
  obtain ⟨v, st₀, t, T', L, h0, X', hL, e1, e2, ⟨⟨hv, n', cs', hq, hz', hP'⟩, hz, hk⟩, stp⟩ := hr T hT X
  rw [h0] at hz hk
  cases hv
  obtain ⟨t2, a1, b1⟩ := kk n' cs' T'.heap (locs ++ L) hq (by rw [e1]; exact hz') (by rw [e1]; exact hP') ⟨Nat.le_trans hS.1 (by rw [e1]; exact hz), fun q h1 h2 => by rw [e1, hk q (Nat.lt_of_lt_of_le h1 hS.1) h2]; exact hS.2.1 q h1 h2, fun q hq => by
    rcases List.mem_append.mp hq with h1 | h1
    · exact hS.2.2 q h1
    · exact hL q h1⟩ T' rfl X'
  exact ⟨t2, stp t2 a1, b1⟩
theorem F_callN {M' : MD} {idx d' mc' ms' i : Nat} (hd : decode M.2.1 pc = .ok (.invokespecial idx, 3)) (hm : MFc M' 0) (hr : M'.2.2.2.1 = none) (hnm : M'.1.name = "<init>") (him : Cond.instanceMethod M'.1 ∈ gtb) (hl : Cond.methodLinkNest M.1.cls idx M'.1 RX10 ∈ initW) (hdd : d' < d) (hcs : csum st ≤ 8) (h1 : c + mc' ≤ mc) (h2 : sl + ms' ≤ ms)
    (k : CtF d' mc' ms' M' i n cs (fun n' cs' => Fj d mc ms M (pc + 3) lv st n' cs' (c + mc') (sl + ms') Q)) : Fj d mc ms M pc lv (vr i :: st) n cs c sl Q := by
  intro p l e s m args below meth cc H locs ls D dA base C K Ns hbs hin hret hlk hz hP hS L
  have hcn : va_CN (rmF d mc ms) s args M.1.cls idx M'.1 RX10 M'.2.1 M'.2.2.1 none (wsM M') (rmF d' mc' ms') mc' ms' 0 := by
    refine va_cnB 0 C.2.2.2.2 (wsM_good hm) (by rw [← hr]; rfl) rfl rfl (Ns.1 _ hl) (C.2.2.2.2 _ hm.2.1.1) ⟨hm.2.1.2.1, hm.2.1.2.2.1, hm.2.2.1⟩ ⟨?_, ?_⟩
    · show d' + 1 ≤ d
      omega
    · have h2 := hm.2.2.2
      show 8 + (M'.2.2.1 + 11) + 64 * d' ≤ 64 * d
      omega
  refine callF_core (rest := st.map (rF base)) (va_runIN (As := []) (b := base + i) ⟨C.1, C.2.1, C.2.2.1, C.2.2.2.1, C.2.2.2.2⟩ (k l D dA base) ⟨hcn, hnm, C.2.2.2.2 _ him⟩ ⟨PcF_blind, PcF_at K Ns hz hP⟩ rfl rfl L.1 rfl (lv_room (by rw [csum_rF]; exact hcs)) hd ⟨h1, h2⟩) hS ?_
  intro n' cs' H' locs' hq hz' hP' hS'
  exact hq p l e s m args below meth cc H' locs' ls D dA base C K Ns hbs hin hret hlk hz' hP' hS' L
theorem F_callI {M' : MD} {idx d' mc' ms' i : Nat} (hd : decode M.2.1 pc = .ok (.invokespecial idx, 3)) (hm : MFc M' 0) (hr : M'.2.2.2.1 = none) (hnm : M'.1.name = "<init>") (him : Cond.instanceMethod M'.1 ∈ gtb) (hl : Cond.methodLink M.1.cls idx M'.1 ∈ gtb) (hdd : d' < d) (hcs : csum st ≤ 8) (h1 : c + mc' ≤ mc) (h2 : sl + ms' ≤ ms)
    (k : CtF d' mc' ms' M' i n cs (fun n' cs' => Fj d mc ms M (pc + 3) lv st n' cs' (c + mc') (sl + ms') Q)) : Fj d mc ms M pc lv (vr i :: st) n cs c sl Q := by
  intro p l e s m args below meth cc H locs ls D dA base C K Ns hbs hin hret hlk hz hP hS L
  have hcb : CallB (rmF d mc ms) s args M.1.cls idx M'.1 M'.2.1 M'.2.2.1 none (wsM M') (rmF d' mc' ms') mc' ms' 0 := by
    refine callB_of 0 C.2.2.2.2 (wsM_good hm) (by rw [← hr]; rfl) rfl rfl (C.2.2.2.2 _ hm.2.1.1) (C.2.2.2.2 _ hl) ⟨hm.2.1.2.1, hm.2.1.2.2.1, hm.2.2.1⟩ ⟨?_, ?_⟩
    · show d' + 1 ≤ d
      omega
    · have h2 := hm.2.2.2
      show 8 + (M'.2.2.1 + 11) + 64 * d' ≤ 64 * d
      omega
  refine callF_core (rest := st.map (rF base)) (va_runI (As := []) (b := base + i) ⟨C.1, C.2.1, C.2.2.1, C.2.2.2.1, C.2.2.2.2⟩ (k l D dA base) ⟨hcb, hnm, C.2.2.2.2 _ him⟩ ⟨PcF_blind, PcF_at K Ns hz hP⟩ rfl rfl L.1 rfl (lv_room (by rw [csum_rF]; exact hcs)) hd ⟨h1, h2⟩) hS ?_
  intro n' cs' H' locs' hq hz' hP' hS'
  exact hq p l e s m args below meth cc H' locs' ls D dA base C K Ns hbs hin hret hlk hz' hP' hS' L
/-- a constructor's contract out of its body -/
theorem CtF_of {i : Nat} (hm : MFc M 0) (hr : M.2.2.2.1 = none) (hnm : M.1.name = "<init>") (hml : 1 ≤ M.2.2.1) (k : Fj d mc ms M 0 [(0, vr i)] [] n cs 0 0 Q) : CtF d mc ms M i n cs Q := by
  intro l D dA base
  refine Met.ofW (cc := M.2.1) (maxL := M.2.2.1) (ret := M.2.2.2.1) hm.2.1.2.2.2 rfl ?_
  intro p e s m args below meth c s₁ B hmx hv
  obtain ⟨rfl, hsz, hP, hK, hN⟩ := hv
  have hts := atoms_spec (ws := wsM M) B.pre
  have hown : s.vm.findClass M.1.cls = some m.cls := findClass_of_methodNamed B.named
  have hl := lv_entry [Value.ref (base + i)] (n := M.2.2.1) (by show 1 ≤ M.2.2.1; exact hml)
  rw [lg_entry_eq]
  exact k p l e s m _ below meth c s.heap [] _ D dA base ⟨B.exec, B.bytes, hmx, hown, fun w hw => hts w (List.mem_cons_of_mem _ hw)⟩ hK hN (by rw [hsz]; omega) ((name_of_methodNamed B.named B.method).1.trans hnm) (by rw [B.returns]; exact hr) B.notSynchronized hsz hP va_S.rf hl
theorem CtF_mono {i : Nat} {Q' : Nat → (Nat → CDs) → Prop} (k : CtF d mc ms M i n cs Q) (hq : ∀ n' cs', Q n' cs' → Q' n' cs') : CtF d mc ms M i n cs Q' := by
  intro l D dA base
  refine MetFree.mono (k l D dA base) (fun _ _ q => q) (fun _ _ _ _ _ q => q) (fun a st o t _ q => ?_)
  obtain ⟨⟨⟨e0, n', cs', e1, e2⟩, e4⟩, e5⟩ := q
  exact ⟨⟨⟨e0, n', cs', hq n' cs' e1, e2⟩, e4⟩, e5⟩
end FM
