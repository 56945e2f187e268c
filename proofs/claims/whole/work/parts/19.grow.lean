/-! worlds that grow: the constructors. The k-th new cell lies at base + k. -/
abbrev FV : Type := Int ⊕ Option Nat
abbrev CDs : Type := (Nat × (Nat → FV)) ⊕ ((Nat × Nat × (Nat → Int)) ⊕ (Nat × Nat × (Nat → Option Nat)))
abbrev cO (ci : Nat) (f : Nat → FV) : CDs := Sum.inl (ci, f)
abbrev cP (t n : Nat) (f : Nat → Int) : CDs := Sum.inr (Sum.inl (t, n, f))
abbrev cR (t n : Nat) (f : Nat → Option Nat) : CDs := Sum.inr (Sum.inr (t, n, f))
def fvv (base t : Nat) (v : FV) : Value := match v with
  | .inl z => if t = 1 then .long (Int64.ofInt z) else .int (Int32.ofInt z)
  | .inr (some r) => .ref (base + r)
  | .inr none => .null
def fsF (base ci : Nat) (f : Nat → FV) : List Value := (ftL.getD ci []).mapIdx (fun j t => fvv base t (f j))
def cvt (dA : Nat → ClassId) (base : Nat) : CDs → va_E
  | .inl (ci, f) => .inr (ci, fsF base ci f)
  | .inr (.inl (t, n, f)) => .inl (dA t, n, if t = 2 then .inr (.inl (fun j => Int64.ofInt (f j))) else .inl (fun j => Int32.ofInt (f j)))
  | .inr (.inr (t, n, f)) => .inl (dA t, n, .inr (.inr (.inr (.inr (fun j => (f j).map (fun r => base + r))))))
def wsF (dA : Nat → ClassId) (base n : Nat) (cs : Nat → CDs) : va_W := (List.range n).map (fun k => (base + k, cvt dA base (cs k)))
def tysF (dA : Nat → ClassId) : List (ClassId × FieldType) := [(dA 0, .int), (dA 1, .boolean), (dA 2, .long), (dA 3, .object "ComparatorNetworks$Network"), (dA 4, .object "ComparatorNetworks$Shelf")]
def cu (cs : Nat → CDs) (k : Nat) (c : CDs) : Nat → CDs := fun j => if j = k then c else cs j
theorem wsF_at {dA : Nat → ClassId} {base n : Nat} {cs : Nat → CDs} {k : Nat} (hk : k < n) : (wsF dA base n cs)[k]? = some (base + k, cvt dA base (cs k)) := by
  simp [wsF, hk]
theorem wsF_of {dA : Nat → ClassId} {base n : Nat} {cs : Nat → CDs} {k : Nat} {q : Nat × va_E} (hq : (wsF dA base n cs)[k]? = some q) : k < n ∧ q = (base + k, cvt dA base (cs k)) := by
  have hk : k < n := by
    have := (List.getElem?_eq_some_iff.mp hq).1
    simpa [wsF] using this
  rw [wsF_at hk] at hq
  exact ⟨hk, (Option.some.inj hq).symm⟩
theorem wsF_D {dA : Nat → ClassId} {base n : Nat} {cs : Nat → CDs} : va_D (fun q => base ≤ q) (wsF dA base n cs) := by
  refine ⟨fun i j p q hp hq hpq => ?_, fun k q hq => ?_⟩
  · obtain ⟨h1, rfl⟩ := wsF_of hp
    obtain ⟨h2, rfl⟩ := wsF_of hq
    simp at hpq
    exact hpq
  · obtain ⟨h1, rfl⟩ := wsF_of hq
    show base ≤ base + k
    omega
theorem wsF_set {dA : Nat → ClassId} {base n : Nat} {cs : Nat → CDs} {k : Nat} {c : CDs} : (wsF dA base n cs).set k (base + k, cvt dA base c) = wsF dA base n (cu cs k c) := by
  refine List.ext_getElem? fun m => ?_
  rw [List.getElem?_set]
  by_cases hm : m < n
  · by_cases hk : k = m
    · subst hk
      rw [if_pos rfl, if_pos (by simp [wsF, hm]), wsF_at hm]
      simp [cu]
    · rw [if_neg hk, wsF_at hm, wsF_at hm]
      have : ¬ m = k := fun q => hk q.symm
      simp [cu, this]
  · have e1 : (wsF dA base n (cu cs k c))[m]? = none := by simp [wsF]; omega
    have e2 : (wsF dA base n cs)[m]? = none := by simp [wsF]; omega
    rw [e1, e2]
    split
    · rw [if_neg]
      simp [wsF]; omega
    · rfl
theorem wsF_push {D : va_G} {dA : Nat → ClassId} {base n : Nat} {cs : Nat → CDs} {c : CDs} {H H1 : Heap} (hP : va_P D vwCl (wsF dA base n cs) H) (hz : H.size = base + n) (hn : va_at D vwCl (base + n, cvt dA base c) H1) (ho : ∀ q, q < H.size → H1[q]? = H[q]?) : va_P D vwCl (wsF dA base (n + 1) (cu cs n c)) H1 := by
  intro k q hq
  obtain ⟨h1, rfl⟩ := wsF_of hq
  by_cases hk : k = n
  · subst hk
    simp only [cu, if_pos]
    exact hn
  · have h2 : k < n := by omega
    simp only [cu, if_neg hk]
    exact (hP k _ (wsF_at h2)).kept (ho _ (by rw [hz]; show base + k < base + n; omega))
def rmF (d mc ms : Nat) : Room := { frames := d, cells := mc, slots := ms, locals := 64 * d }
def initW : List Cond := [Cond.methodLinkNest RX10 15 yX3_init RX10, Cond.methodLinkNest RX2 28 yX3_init RX10, Cond.methodLinkNest RX10 29 yX8_init RX10, Cond.methodLinkNest RX10 40 yX9_init RX10, Cond.methodLinkNest RX10 51 yX6_init RX10, Cond.methodLinkNest RX10 54 yX7_init RX10, Cond.methodLinkNest RX10 61 yX4_init RX10, Cond.methodLinkNest RX10 71 yX1_init RX10, Cond.methodLinkNest RX10 78 yX0_init RX10, Cond.methodLinkNest RX10 85 yX5_init RX10]
theorem initW_tbl : ∀ w ∈ initW, w ∈ lw_tbl := by
  intro w hw
  simp only [initW, List.mem_cons, List.not_mem_nil, or_false] at hw
  rcases hw with rfl | rfl | rfl | rfl | rfl | rfl | rfl | rfl | rfl | rfl
  · exact List.mem_of_getElem? (i := 78) (by decide +kernel)
  · exact List.mem_of_getElem? (i := 123) (by decide +kernel)
  · exact List.mem_of_getElem? (i := 139) (by decide +kernel)
  · exact List.mem_of_getElem? (i := 152) (by decide +kernel)
  · exact List.mem_of_getElem? (i := 175) (by decide +kernel)
  · exact List.mem_of_getElem? (i := 192) (by decide +kernel)
  · exact List.mem_of_getElem? (i := 211) (by decide +kernel)
  · exact List.mem_of_getElem? (i := 239) (by decide +kernel)
  · exact List.mem_of_getElem? (i := 266) (by decide +kernel)
  · exact List.mem_of_getElem? (i := 279) (by decide +kernel)
theorem nX10_15 : Cond.methodLinkNest RX10 15 yX3_init RX10 ∈ initW := List.mem_of_getElem? (i := 0) rfl
theorem nX2_28 : Cond.methodLinkNest RX2 28 yX3_init RX10 ∈ initW := List.mem_of_getElem? (i := 1) rfl
theorem nX10_29 : Cond.methodLinkNest RX10 29 yX8_init RX10 ∈ initW := List.mem_of_getElem? (i := 2) rfl
theorem nX10_40 : Cond.methodLinkNest RX10 40 yX9_init RX10 ∈ initW := List.mem_of_getElem? (i := 3) rfl
theorem nX10_51 : Cond.methodLinkNest RX10 51 yX6_init RX10 ∈ initW := List.mem_of_getElem? (i := 4) rfl
theorem nX10_54 : Cond.methodLinkNest RX10 54 yX7_init RX10 ∈ initW := List.mem_of_getElem? (i := 5) rfl
theorem nX10_61 : Cond.methodLinkNest RX10 61 yX4_init RX10 ∈ initW := List.mem_of_getElem? (i := 6) rfl
theorem nX10_71 : Cond.methodLinkNest RX10 71 yX1_init RX10 ∈ initW := List.mem_of_getElem? (i := 7) rfl
theorem nX10_78 : Cond.methodLinkNest RX10 78 yX0_init RX10 ∈ initW := List.mem_of_getElem? (i := 8) rfl
theorem nX10_85 : Cond.methodLinkNest RX10 85 yX5_init RX10 ∈ initW := List.mem_of_getElem? (i := 9) rfl
theorem initW_warm {w : Cond} (hw : w ∈ initW) {s U : State} (hW : s.WarmedH U.vm) (h : va_Nw w s) : va_Nw w U := by
  simp only [initW, List.mem_cons, List.not_mem_nil, or_false] at hw
  rcases hw with rfl | rfl | rfl | rfl | rfl | rfl | rfl | rfl | rfl | rfl <;> exact va_Nw.warmM hW h
theorem initW_same {w : Cond} (hw : w ∈ initW) {u U : State} (e : u.vm = U.vm) (h : va_Nw w u) : va_Nw w U := by
  simp only [initW, List.mem_cons, List.not_mem_nil, or_false] at hw
  rcases hw with rfl | rfl | rfl | rfl | rfl | rfl | rfl | rfl | rfl | rfl <;> exact va_Nw.same rfl e h
def Nsi (U : State) : Prop := (∀ w ∈ initW, va_Nw w U) ∧ va_AO "ComparatorNetworks$Network" U ∧ va_AO "ComparatorNetworks$Shelf" U
def PcF (D : va_G) (dA : Nat → ClassId) (base n : Nat) (cs : Nat → CDs) (i : Nat) : Array Value → State → Prop := va_Pc [.ref (base + i)] (fun U => U.heap.size = base + n ∧ va_P D vwCl (wsF dA base n cs) U.heap ∧ va_K D vwCl (tysF dA) U ∧ Nsi U)
def QcF (D : va_G) (dA : Nat → ClassId) (base : Nat) (Q : Nat → (Nat → CDs) → Prop) : Array Value → State → Outcome → State → Prop := fun _ st oc t => (oc = .returned none ∧ ∃ (n' : Nat) (cs' : Nat → CDs), Q n' cs' ∧ t.heap.size = base + n' ∧ va_P D vwCl (wsF dA base n' cs') t.heap) ∧ va_F (fun q => base ≤ q) st t
def CtF (d mc ms : Nat) (M : MD) (i n : Nat) (cs : Nat → CDs) (Q : Nat → (Nat → CDs) → Prop) : Prop := ∀ (l : Launch) (D : va_G) (dA : Nat → ClassId) (base : Nat), Met l M.1 (wsM M) (rmF d mc ms) (PcF D dA base n cs i) (QcF D dA base Q) mc ms (fun q => base ≤ q)
def rF (base : Nat) : AV → Value := rv (fun k => base + k)
def lvF (base : Nat) (lv : List (Nat × AV)) : List (Nat × Value) := lv.map (fun q => (q.1, rF base q.2))
def Fj (d mc ms : Nat) (M : MD) (pc : Nat) (lv : List (Nat × AV)) (st : List AV) (n : Nat) (cs : Nat → CDs) (c sl : Nat) (Q : Nat → (Nat → CDs) → Prop) : Prop :=
  ∀ (p : Program) (l : Launch) (e : Env) (s : State) (m : MethodId) (args : Array Value) (below : List Frame) (meth : Method) (cc : Code) (H : Heap) (locs : List Loc) (ls : Array Slot) (D : va_G) (dA : Nat → ClassId) (base : Nat),
    Cx p s m args cc M → va_K D vwCl (tysF dA) s → Nsi s → base ≤ s.heap.size → meth.name = "<init>" → meth.sig.returnType = none → meth.locks = false →
    H.size = base + n → va_P D vwCl (wsF dA base n cs) H → va_S (fun q => base ≤ q) s.heap H locs → lv_has ls M.2.2.1 (lvF base lv) →
    W p l e (rmF d mc ms) s m args below meth cc H locs c sl (MQ below (QcF D dA base Q) args s mc ms (fun q => base ≤ q)) (F0 m pc ls (st.map (rF base)))
section FL
variable {d mc ms : Nat} {M : MD} {pc : Nat} {lv : List (Nat × AV)} {st : List AV} {n : Nat} {cs : Nat → CDs} {c sl : Nat} {Q : Nat → (Nat → CDs) → Prop}
theorem lvF_at {base k i : Nat} {v : AV} (hk : lv[k]? = some (i, v)) : (lvF base lv)[k]? = some (i, rF base v) := by
  unfold lvF
  rw [List.getElem?_map, hk]
  rfl
theorem F_return (hd : decode M.2.1 pc = .ok (.return_, 1)) (hc : c = mc) (hs : sl = ms) (hq : Q n cs) : Fj d mc ms M pc lv [] n cs c sl Q := by
  intro p l e s m args below meth cc H locs ls D dA base C K Ns hbs hin hret hlk hz hP hS L
  subst hc; subst hs
  exact W.vret C.1 C.2.1 hret (fun t ht hW => ⟨⟨rfl, n, cs, hq, by rw [ht]; exact hz, by rw [ht]; exact hP⟩, hS.F ht⟩) hS.2.2 hd (hlocks := hlk)
theorem F_aload {kk : Fin 4} {a : Int} (q i : Nat) (hd : decode M.2.1 pc = .ok (.aload_n kk, 1)) (hi : (kk : Nat) = i) (hl : lv[q]? = some (i, vr a)) (k : Fj d mc ms M (pc + 1) lv (vr a :: st) n cs c sl Q) : Fj d mc ms M pc lv st n cs c sl Q := by
  intro p l e s m args below meth cc H locs ls D dA base C K Ns hbs hin hret hlk hz hP hS L
  exact lv_aload_n C.1 C.2.1 hd hi (lv_at L q (lvF_at hl)) (k p l e s m args below meth cc H locs ls D dA base C K Ns hbs hin hret hlk hz hP hS L)
theorem F_iload {kk : Fin 4} {x : Int} (q i : Nat) (hd : decode M.2.1 pc = .ok (.iload_n kk, 1)) (hi : (kk : Nat) = i) (hl : lv[q]? = some (i, vi x)) (k : Fj d mc ms M (pc + 1) lv (vi x :: st) n cs c sl Q) : Fj d mc ms M pc lv st n cs c sl Q := by
  intro p l e s m args below meth cc H locs ls D dA base C K Ns hbs hin hret hlk hz hP hS L
  exact lv_iload_n C.1 C.2.1 hd hi (lv_at L q (lvF_at hl)) (k p l e s m args below meth cc H locs ls D dA base C K Ns hbs hin hret hlk hz hP hS L)
theorem F_iconst {z : Int} (hd : decode M.2.1 pc = .ok (.iconst z, 1)) (k : Fj d mc ms M (pc + 1) lv (vi z :: st) n cs c sl Q) : Fj d mc ms M pc lv st n cs c sl Q := by
  intro p l e s m args below meth cc H locs ls D dA base C K Ns hbs hin hret hlk hz hP hS L
  exact lv_iconst C.1 C.2.1 hd rfl (k p l e s m args below meth cc H locs ls D dA base C K Ns hbs hin hret hlk hz hP hS L)
theorem F_bipush {z : Int} (hd : decode M.2.1 pc = .ok (.bipush z, 2)) (hn : -128 ≤ z ∧ z < 128) (k : Fj d mc ms M (pc + 2) lv (vi z :: st) n cs c sl Q) : Fj d mc ms M pc lv st n cs c sl Q := by
  intro p l e s m args below meth cc H locs ls D dA base C K Ns hbs hin hret hlk hz hP hS L
  have hr : rg z := by unfold rg; omega
  refine lv_bipush (v := Int32.ofInt z) C.1 C.2.1 hd ?_ (k p l e s m args below meth cc H locs ls D dA base C K Ns hbs hin hret hlk hz hP hS L)
  apply Int32.toInt_inj.mp
  rw [Int8.toInt_toInt32, o32 hr]
  exact Int8.toInt_ofInt_of_le (by simpa using hn.1) (by simpa using hn.2)
theorem F_sipush {z : Int} (hd : decode M.2.1 pc = .ok (.sipush z, 3)) (hn : -32768 ≤ z ∧ z < 32768) (k : Fj d mc ms M (pc + 3) lv (vi z :: st) n cs c sl Q) : Fj d mc ms M pc lv st n cs c sl Q := by
  intro p l e s m args below meth cc H locs ls D dA base C K Ns hbs hin hret hlk hz hP hS L
  have hr : rg z := by unfold rg; omega
  refine lv_sipush (v := Int32.ofInt z) C.1 C.2.1 hd ?_ (k p l e s m args below meth cc H locs ls D dA base C K Ns hbs hin hret hlk hz hP hS L)
  apply Int32.toInt_inj.mp
  rw [Int16.toInt_toInt32, o32 hr]
  exact Int16.toInt_ofInt_of_le (by simpa using hn.1) (by simpa using hn.2)
theorem lvF_store {base i : Nat} {v : AV} : lvF base ((i, v) :: lv.filter (fun q => !(q.1 == i) && !(q.1 + 1 == i && cat q.2 == 2))) = (i, rF base v) :: (lvF base lv).filter (fun q => !(q.1 == i) && !(q.1 + 1 == i && q.2.category == 2)) := by
  unfold lvF rF
  rw [List.map_cons, List.filter_map]
  congr 3
  funext q
  simp only [Function.comp, cat_rv]
theorem F_istore {kk : Fin 4} {i : Nat} {x : Int} {lv' : List (Nat × AV)} (hd : decode M.2.1 pc = .ok (.istore_n kk, 1)) (hi : (kk : Nat) = i) (hn : i < M.2.2.1) (hl : (i, vi x) :: lv.filter (fun q => !(q.1 == i) && !(q.1 + 1 == i && cat q.2 == 2)) = lv') (k : Fj d mc ms M (pc + 1) lv' st n cs c sl Q) : Fj d mc ms M pc lv (vi x :: st) n cs c sl Q := by
  intro p l e s m args below meth cc H locs ls D dA base C K Ns hbs hin hret hlk hz hP hS L
  refine lv_istore_n (lv' := lvF base lv') C.1 C.2.1 hd hi L hn (by rw [← hl]; exact (lvF_store (v := vi x)).symm) (fun ls' L' => ?_)
  exact k p l e s m args below meth cc H locs ls' D dA base C K Ns hbs hin hret hlk hz hP hS L'
theorem F_iinc {i : Nat} {z x y : Int} {lv' : List (Nat × AV)} (q : Nat) (hd : decode M.2.1 pc = .ok (.iinc i z, 3)) (hq : lv[q]? = some (i, vi x)) (hy : x + z = y) (hn : i < M.2.2.1) (hl : (i, vi y) :: lv.filter (fun q => !(q.1 == i) && !(q.1 + 1 == i && cat q.2 == 2)) = lv') (k : Fj d mc ms M (pc + 3) lv' st n cs c sl Q) : Fj d mc ms M pc lv st n cs c sl Q := by
  intro p l e s m args below meth cc H locs ls D dA base C K Ns hbs hin hret hlk hz hP hS L
  subst hy
  refine lv_iinc (v := Int32.ofInt (x + z)) (lv' := lvF base lv') C.1 C.2.1 hd L (lvF_at hq) (Int32.ofInt_add ..).symm hn (by rw [← hl]; exact (lvF_store (v := vi (x + z))).symm) (fun ls' L' => ?_)
  exact k p l e s m args below meth cc H locs ls' D dA base C K Ns hbs hin hret hlk hz hP hS L'
theorem F_goto {off : Int} (tgt : Nat) (hd : decode M.2.1 pc = .ok (.goto off, 3)) (ht : (pc : Int) + off = (tgt : Int)) (k : Fj d mc ms M tgt lv st n cs c sl Q) : Fj d mc ms M pc lv st n cs c sl Q := by
  intro p l e s m args below meth cc H locs ls D dA base C K Ns hbs hin hret hlk hz hP hS L
  exact lv_goto C.1 C.2.1 hd ht (k p l e s m args below meth cc H locs ls D dA base C K Ns hbs hin hret hlk hz hP hS L)
theorem F_ge {x y : Int} {off : Int} (tgt : Nat) (hd : decode M.2.1 pc = .ok (.if_icmp .ge off, 3)) (ht : (pc : Int) + off = (tgt : Int)) (hx : rg x) (hy : rg y) (kt : x ≥ y → Fj d mc ms M tgt lv st n cs c sl Q) (kf : ¬ x ≥ y → Fj d mc ms M (pc + 3) lv st n cs c sl Q) : Fj d mc ms M pc lv (vi y :: vi x :: st) n cs c sl Q := by
  intro p l e s m args below meth cc H locs ls D dA base C K Ns hbs hin hret hlk hz hP hS L
  have cv : (Int32.ofInt x ≥ Int32.ofInt y) ↔ (x ≥ y) := o32_ge hx hy
  exact lv_icmp_ge C.1 C.2.1 hd ht (fun q => kt (cv.mp q) p l e s m args below meth cc H locs ls D dA base C K Ns hbs hin hret hlk hz hP hS L) (fun q => kf (fun z => q (cv.mpr z)) p l e s m args below meth cc H locs ls D dA base C K Ns hbs hin hret hlk hz hP hS L)
theorem F_dup {v : AV} (hd : decode M.2.1 pc = .ok (.dup, 1)) (hv : cat v = 1) (k : Fj d mc ms M (pc + 1) lv (v :: v :: st) n cs c sl Q) : Fj d mc ms M pc lv (v :: st) n cs c sl Q := by
  intro p l e s m args below meth cc H locs ls D dA base C K Ns hbs hin hret hlk hz hP hS L
  exact lv_dup C.1 C.2.1 hd (by unfold rF; rw [cat_rv]; exact hv) (k p l e s m args below meth cc H locs ls D dA base C K Ns hbs hin hret hlk hz hP hS L)
theorem csum_rF (base : Nat) (l : List AV) : ((l.map (rF base)).map fun v => v.category).sum = csum l := csum_rv _ l
theorem F_objInit {a : Int} {idx : Nat} (hd : decode M.2.1 pc = .ok (.invokespecial idx, 3)) (h1 : Cond.methodLink M.1.cls idx Lib.objectInit ∈ gtb) (h2 : Cond.instanceMethod Lib.objectInit ∈ gtb) (h3 : Cond.code Lib.objectInit ⟨#[0xb1]⟩ 1 none ∈ gtb) (hdd : 0 < d) (hcs : csum st ≤ 8) (k : Fj d mc ms M (pc + 3) lv st n cs c sl Q) : Fj d mc ms M pc lv (vr a :: st) n cs c sl Q := by
  intro p l e s m args below meth cc H locs ls D dA base C K Ns hbs hin hret hlk hz hP hS L
  refine W.objInit C.1 C.2.1 C.2.2.2.1 (C.2.2.2.2 _ h1) (C.2.2.2.2 _ h2) (C.2.2.2.2 _ h3) rfl (by rw [C.2.2.1]; exact L.1) (a := base + a.toNat) (rest := st.map (rF base)) rfl hd (by show 1 ≤ d; omega) (by rw [csum_rF]; show 2 * 0 + csum st + 12 ≤ 64 * d; omega) ?_
  exact k p l e s m args below meth cc H locs ls D dA base C K Ns hbs hin hret hlk hz hP hS L
def dfl (ci : Nat) (j : Nat) : FV := if (ftL.getD ci []).getD j 0 = 2 then Sum.inr none else Sum.inl 0
def NWF (own : String) (idx ci N : Nat) : Prop := ∃ (C : String) (T : u_T) (ty : Nat → FieldType), vwCl[ci]? = some (C, T, N) ∧ (∀ w ∈ u_ws C T N, w ∈ gtb) ∧ (∀ k, k < N → parseFieldDescriptor (T k).2.2.1 = some (ty k)) ∧ Cond.classLink own idx C ∈ gtb ∧ Cond.instantiable C N ∈ gtb ∧ Cond.initialized C ∈ gtb ∧ ∀ base j : Nat, j < N → defaultValue (ty j) = vp_V (fsF base ci (dfl ci)) j
theorem F_new {idx ci N : Nat} (hd : decode M.2.1 pc = .ok (.new idx, 3)) (hf : NWF M.1.cls idx ci N) (h1 : c + 1 ≤ mc) (h2 : sl + N ≤ ms) {cs' : Nat → CDs} (hcs : cu cs n (cO ci (dfl ci)) = cs') (k : Fj d mc ms M (pc + 3) lv (vr n :: st) (n + 1) cs' (c + 1) (sl + N) Q) : Fj d mc ms M pc lv st n cs c sl Q := by
  intro p l e s m args below meth cc H locs ls D dA base C K Ns hbs hin hret hlk hz hP hS L
  subst hcs
  obtain ⟨C0, T, ty, hcl, hin2, hty, hlk2, hins, hini, hdf⟩ := hf
  have hKn := K.1 ci _ hcl
  refine W.newcK C.1 C.2.1 C.2.2.2.1 (C.2.2.2.2 _ hlk2) (C.2.2.2.2 _ hins) (C.2.2.2.2 _ hini) rfl hd h1 h2 hKn.2.1 hz fun H1 kC hkC e1 z1 o1 => ?_
  have hk := k p l e s m args below meth cc H1 locs ls D dA base C K Ns hbs hin hret hlk (by rw [z1]; rfl) (wsF_push hP hz ⟨_, hcl, (u_born ty C.2.2.2.2 hin2 hKn hkC e1 hty).to (hdf base)⟩ (fun q hq => o1 q (by rw [← hz]; exact hq))) ⟨Nat.le_trans hS.1 (by rw [z1, hz]; omega), fun x h1 h2 => (o1 x (by have := hS.1; omega)).trans (hS.2.1 x h1 h2), hS.2.2⟩ L
  exact hk
theorem F_newaI {N : Nat} (hd : decode M.2.1 pc = .ok (.newarray .int, 2)) (ha : Cond.arrayClass .int ∈ gtb) (hN : N ≤ 10000) (h1 : c + 1 ≤ mc) (h2 : sl + N ≤ ms) {cs' : Nat → CDs} (hcs : cu cs n (cP 0 N (fun _ => 0)) = cs') (k : Fj d mc ms M (pc + 2) lv (vr n :: st) (n + 1) cs' (c + 1) (sl + N) Q) : Fj d mc ms M pc lv (vi N :: st) n cs c sl Q := by
  intro p l e s m args below meth cc H locs ls D dA base C K Ns hbs hin hret hlk hz hP hS L
  subst hcs
  have hr : rg (N : Int) := by unfold rg; omega
  have hng : ¬ Int32.ofInt (N : Int) < 0 := by rw [o32_0, o32_lt hr rg0]; omega
  refine va_newaK (atype := .int) C.1 C.2.1 (C.2.2.2.2 _ ha) rfl hd (n := Int32.ofInt N) (N := N) (rest := st.map (rF base)) rfl hng (by rw [o32_clamp hr]; rfl) (by show N * 4 ≤ 536870912; omega) h1 h2 hz fun H1 cA e1 z1 o1 hAr hNm => ?_
  have hcA : cA = dA 0 := by
    have h3 := (K.2 0 _ rfl).2
    exact Option.some.inj (hNm.symm.trans h3)
  subst hcA
  have hat : va_at D vwCl (base + n, cvt dA base (cP 0 N (fun _ => 0))) H1 := by
    show H1[base + n]? = some (vp_cell _ _)
    rw [e1]
    rfl
  exact k p l e s m args below meth cc H1 locs ls D dA base C K Ns hbs hin hret hlk (by rw [z1]; rfl) (wsF_push hP hz hat (fun q hq => o1 q (by rw [← hz]; exact hq))) ⟨Nat.le_trans hS.1 (by rw [z1, hz]; omega), fun x h1 h2 => (o1 x (by have := hS.1; omega)).trans (hS.2.1 x h1 h2), hS.2.2⟩ L
theorem F_newaZ {N : Nat} (hd : decode M.2.1 pc = .ok (.newarray .boolean, 2)) (ha : Cond.arrayClass .boolean ∈ gtb) (hN : N ≤ 10000) (h1 : c + 1 ≤ mc) (h2 : sl + N ≤ ms) {cs' : Nat → CDs} (hcs : cu cs n (cP 1 N (fun _ => 0)) = cs') (k : Fj d mc ms M (pc + 2) lv (vr n :: st) (n + 1) cs' (c + 1) (sl + N) Q) : Fj d mc ms M pc lv (vi N :: st) n cs c sl Q := by
  intro p l e s m args below meth cc H locs ls D dA base C K Ns hbs hin hret hlk hz hP hS L
  subst hcs
  have hr : rg (N : Int) := by unfold rg; omega
  have hng : ¬ Int32.ofInt (N : Int) < 0 := by rw [o32_0, o32_lt hr rg0]; omega
  refine va_newaK (atype := .boolean) C.1 C.2.1 (C.2.2.2.2 _ ha) rfl hd (n := Int32.ofInt N) (N := N) (rest := st.map (rF base)) rfl hng (by rw [o32_clamp hr]; rfl) (by show N * 1 ≤ 536870912; omega) h1 h2 hz fun H1 cA e1 z1 o1 hAr hNm => ?_
  have hcA : cA = dA 1 := by
    have h3 := (K.2 1 _ rfl).2
    exact Option.some.inj (hNm.symm.trans h3)
  subst hcA
  have hat : va_at D vwCl (base + n, cvt dA base (cP 1 N (fun _ => 0))) H1 := by
    show H1[base + n]? = some (vp_cell _ _)
    rw [e1]
    rfl
  exact k p l e s m args below meth cc H1 locs ls D dA base C K Ns hbs hin hret hlk (by rw [z1]; rfl) (wsF_push hP hz hat (fun q hq => o1 q (by rw [← hz]; exact hq))) ⟨Nat.le_trans hS.1 (by rw [z1, hz]; omega), fun x h1 h2 => (o1 x (by have := hS.1; omega)).trans (hS.2.1 x h1 h2), hS.2.2⟩ L
theorem F_newaJ {N : Nat} (hd : decode M.2.1 pc = .ok (.newarray .long, 2)) (ha : Cond.arrayClass .long ∈ gtb) (hN : N ≤ 10000) (h1 : c + 1 ≤ mc) (h2 : sl + N ≤ ms) {cs' : Nat → CDs} (hcs : cu cs n (cP 2 N (fun _ => 0)) = cs') (k : Fj d mc ms M (pc + 2) lv (vr n :: st) (n + 1) cs' (c + 1) (sl + N) Q) : Fj d mc ms M pc lv (vi N :: st) n cs c sl Q := by
  intro p l e s m args below meth cc H locs ls D dA base C K Ns hbs hin hret hlk hz hP hS L
  subst hcs
  have hr : rg (N : Int) := by unfold rg; omega
  have hng : ¬ Int32.ofInt (N : Int) < 0 := by rw [o32_0, o32_lt hr rg0]; omega
  refine va_newaK (atype := .long) C.1 C.2.1 (C.2.2.2.2 _ ha) rfl hd (n := Int32.ofInt N) (N := N) (rest := st.map (rF base)) rfl hng (by rw [o32_clamp hr]; rfl) (by show N * 8 ≤ 536870912; omega) h1 h2 hz fun H1 cA e1 z1 o1 hAr hNm => ?_
  have hcA : cA = dA 2 := by
    have h3 := (K.2 2 _ rfl).2
    exact Option.some.inj (hNm.symm.trans h3)
  subst hcA
  have hat : va_at D vwCl (base + n, cvt dA base (cP 2 N (fun _ => 0))) H1 := by
    show H1[base + n]? = some (vp_cell _ _)
    rw [e1]
    rfl
  exact k p l e s m args below meth cc H1 locs ls D dA base C K Ns hbs hin hret hlk (by rw [z1]; rfl) (wsF_push hP hz hat (fun q hq => o1 q (by rw [← hz]; exact hq))) ⟨Nat.le_trans hS.1 (by rw [z1, hz]; omega), fun x h1 h2 => (o1 x (by have := hS.1; omega)).trans (hS.2.1 x h1 h2), hS.2.2⟩ L
theorem F_anewN {N idx : Nat} (hd : decode M.2.1 pc = .ok (.anewarray idx, 3)) (ha : Cond.classLink M.1.cls idx "ComparatorNetworks$Network" ∈ gtb) (hN : N ≤ 10000) (h1 : c + 1 ≤ mc) (h2 : sl + N ≤ ms) {cs' : Nat → CDs} (hcs : cu cs n (cR 3 N (fun _ => none)) = cs') (k : Fj d mc ms M (pc + 3) lv (vr n :: st) (n + 1) cs' (c + 1) (sl + N) Q) : Fj d mc ms M pc lv (vi N :: st) n cs c sl Q := by
  intro p l e s m args below meth cc H locs ls D dA base C K Ns hbs hin hret hlk hz hP hS L
  subst hcs
  have hr : rg (N : Int) := by unfold rg; omega
  have hng : ¬ Int32.ofInt (N : Int) < 0 := by rw [o32_0, o32_lt hr rg0]; omega
  have hcl : (Int32.ofInt (N : Int)).toNatClampNeg = N := by rw [o32_clamp hr]; rfl
  refine W.anew C.1 C.2.1 C.2.2.2.1 (C.2.2.2.2 _ ha) (va_AO.use Ns.2.1) rfl hd (n := Int32.ofInt N) (rest := st.map (rF base)) rfl hng (by rw [hcl]; omega) h1 (by rw [hcl]; exact h2) fun cA kA comp f1 f2 f3 f4 => ?_
  rw [hcl]
  generalize hH1 : H.push ({ cls := cA, slots := Array.replicate N .null, vm := .none } : Cell) = H1
  have z1 : H1.size = H.size + 1 := by rw [← hH1, Array.size_push]
  have e1 : H1[H.size]? = some (arrV cA N (fun _ => .null)) := by rw [← hH1, Array.getElem?_push_size, ← arrV_new]
  have o1 : ∀ q : Nat, q < H.size → H1[q]? = H[q]? := fun q hq => by rw [← hH1, Array.getElem?_push, if_neg (Nat.ne_of_lt hq)]
  have hcA : cA = dA 3 := by
    obtain ⟨_, _, _, _, _, h3⟩ := (K.2 3 _ rfl).2
    exact Option.some.inj (f1.symm.trans h3)
  subst hcA
  have hat : va_at D vwCl (base + n, cvt dA base (cR 3 N (fun _ => none))) H1 := by
    show H1[base + n]? = some (vp_cell _ _)
    rw [← hz, e1]
    rfl
  have k2 := k p l e s m args below meth cc H1 locs ls D dA base C K Ns hbs hin hret hlk (by rw [z1, hz]; rfl) (wsF_push hP hz hat o1) ⟨Nat.le_trans hS.1 (by rw [z1]; omega), fun x h1 h2 => (o1 x (by have := hS.1; omega)).trans (hS.2.1 x h1 h2), hS.2.2⟩ L
  rw [hz]
  exact k2
theorem F_anewS {N idx : Nat} (hd : decode M.2.1 pc = .ok (.anewarray idx, 3)) (ha : Cond.classLink M.1.cls idx "ComparatorNetworks$Shelf" ∈ gtb) (hN : N ≤ 10000) (h1 : c + 1 ≤ mc) (h2 : sl + N ≤ ms) {cs' : Nat → CDs} (hcs : cu cs n (cR 4 N (fun _ => none)) = cs') (k : Fj d mc ms M (pc + 3) lv (vr n :: st) (n + 1) cs' (c + 1) (sl + N) Q) : Fj d mc ms M pc lv (vi N :: st) n cs c sl Q := by
  intro p l e s m args below meth cc H locs ls D dA base C K Ns hbs hin hret hlk hz hP hS L
  subst hcs
  have hr : rg (N : Int) := by unfold rg; omega
  have hng : ¬ Int32.ofInt (N : Int) < 0 := by rw [o32_0, o32_lt hr rg0]; omega
  have hcl : (Int32.ofInt (N : Int)).toNatClampNeg = N := by rw [o32_clamp hr]; rfl
  refine W.anew C.1 C.2.1 C.2.2.2.1 (C.2.2.2.2 _ ha) (va_AO.use Ns.2.2) rfl hd (n := Int32.ofInt N) (rest := st.map (rF base)) rfl hng (by rw [hcl]; omega) h1 (by rw [hcl]; exact h2) fun cA kA comp f1 f2 f3 f4 => ?_
  rw [hcl]
  generalize hH1 : H.push ({ cls := cA, slots := Array.replicate N .null, vm := .none } : Cell) = H1
  have z1 : H1.size = H.size + 1 := by rw [← hH1, Array.size_push]
  have e1 : H1[H.size]? = some (arrV cA N (fun _ => .null)) := by rw [← hH1, Array.getElem?_push_size, ← arrV_new]
  have o1 : ∀ q : Nat, q < H.size → H1[q]? = H[q]? := fun q hq => by rw [← hH1, Array.getElem?_push, if_neg (Nat.ne_of_lt hq)]
  have hcA : cA = dA 4 := by
    obtain ⟨_, _, _, _, _, h3⟩ := (K.2 4 _ rfl).2
    exact Option.some.inj (f1.symm.trans h3)
  subst hcA
  have hat : va_at D vwCl (base + n, cvt dA base (cR 4 N (fun _ => none))) H1 := by
    show H1[base + n]? = some (vp_cell _ _)
    rw [← hz, e1]
    rfl
  have k2 := k p l e s m args below meth cc H1 locs ls D dA base C K Ns hbs hin hret hlk (by rw [z1, hz]; rfl) (wsF_push hP hz hat o1) ⟨Nat.le_trans hS.1 (by rw [z1]; omega), fun x h1 h2 => (o1 x (by have := hS.1; omega)).trans (hS.2.1 x h1 h2), hS.2.2⟩ L
  rw [hz]
  exact k2
end FL
