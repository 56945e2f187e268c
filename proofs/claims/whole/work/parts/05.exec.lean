/-! the judgement E: from this frame, over this abstract heap, the method comes to a return with Q -/
def wlv (j : Nat) : Int64 := match j with
  | 0 => -6148914691236517206
  | 1 => -3689348814741910324
  | 2 => -1085102592571150096
  | 3 => -71777214294589696
  | 4 => -281470681808896
  | _ => -4294967296
def fav (j : Nat) : Int := match j with
  | 0 => 1 | 1 => 1 | 2 => 2 | 3 => 6 | 4 => 24 | 5 => 120 | 6 => 720 | 7 => 5040 | _ => 40320
def pav (j : Nat) : Int := match j with
  | 0 => -1 | 1 => 0 | 2 => 1 | 3 => 0 | 4 => 3 | _ => 4
/-- static tables, links to private statics of the nest -/
def Stt (G : GG) (A : Nat → Prop) (U : State) (H : Heap) : Prop :=
  (va_Z "ComparatorNetworks$Sweep" "WORD_LANES" "[J" (.ref (G.2.1 127)) A U H ∧ va_T .long (G.2.1 127) 6 (fun j => .long (wlv j)) A U H) ∧
  (va_Z "ComparatorNetworks$Chains" "FACTORIALS" "[I" (.ref (G.2.1 128)) A U H ∧ va_T .int (G.2.1 128) 9 (fun j => .int (Int32.ofInt (fav j))) A U H) ∧
  (va_Z "ComparatorNetworks$Shelf" "PARENTS" "[I" (.ref (G.2.1 129)) A U H ∧ va_T .int (G.2.1 129) 6 (fun j => .int (Int32.ofInt (pav j))) A U H)
def Nst (U : State) : Prop := ∀ w ∈ nestW, va_Nw w U
theorem nestW_warm {w : Cond} (hw : w ∈ nestW) {s U : State} (hW : s.WarmedH U.vm) (h : va_Nw w s) : va_Nw w U := by
  simp only [nestW, List.mem_cons, List.not_mem_nil, or_false] at hw
  rcases hw with rfl | rfl | rfl | rfl | rfl | rfl <;> exact va_Nw.warmM hW h
theorem nestW_same {w : Cond} (hw : w ∈ nestW) {u U : State} (e : u.vm = U.vm) (h : va_Nw w u) : va_Nw w U := by
  simp only [nestW, List.mem_cons, List.not_mem_nil, or_false] at hw
  rcases hw with rfl | rfl | rfl | rfl | rfl | rfl <;> exact va_Nw.same rfl e h
/-- the law's script, where there is one -/
def Scr (sc : Option (Nat × Nat × (Nat → Int32))) (G : GG) (A : Nat → Prop) (s : State) : Prop :=
  ∀ b L xs, sc = some (b, L, xs) → b = G.2.1 130 ∧ va_X b L xs s s.heap ∧ b < s.heap.size ∧ ¬ A b
def Cx (p : Program) (s : State) (m : MethodId) (args : Array Value) (c : Code) (M : MD) : Prop :=
  p.tables.exec = Jvm.exec ∧ c.code = M.2.1 ∧ c.maxLocals = M.2.2.1 ∧ s.vm.findClass M.1.cls = some m.cls ∧ ∀ w ∈ gtb, w.before args s = true
def Wd (G : GG) (h : Hp) (s : State) (A : Nat → Prop) (H : Heap) (locs : List Loc) : Prop :=
  va_P G.1 vwCl (ws G h) H ∧ va_D A (ws G h) ∧ va_S A s.heap H locs
def Wc (G : GG) (sc : Option (Nat × Nat × (Nat → Int32))) (s : State) (A : Nat → Prop) : Prop :=
  va_K G.1 vwCl (tys G) s ∧ (∀ q : Nat, s.heap.size ≤ q → A q) ∧ Stt G A s s.heap ∧ Nst s ∧ Scr sc G A s
def RetI (M : MD) (pc : Nat) : Option AV → Prop
  | none => decode M.2.1 pc = .ok (.return_, 1) ∧ M.2.2.2.1 = none
  | some (.inl x) => decode M.2.1 pc = .ok (.ireturn, 1) ∧ (M.2.2.2.1 = some .int ∨ M.2.2.2.1 = some .boolean ∧ (x = 0 ∨ x = 1))
  | some (.inr (.inl _)) => decode M.2.1 pc = .ok (.lreturn, 1) ∧ M.2.2.2.1 = some .long
  | some (.inr (.inr _)) => False
def lvr (G : GG) (lv : List (Nat × AV)) : List (Nat × Value) := lv.map (fun q => (q.1, rv G.2.1 q.2))
def Rm (d : Nat) (R : Room) (cells slots : Nat) : Prop := d ≤ R.frames ∧ 64 * d ≤ R.locals ∧ cells ≤ R.cells ∧ slots ≤ R.slots
def E (d : Nat) (M : MD) (pc : Nat) (lv : List (Nat × AV)) (st : List AV) (h : Hp) (Q : Option AV → Hp → Prop) : Prop :=
  wfh h → (∀ q ∈ lv, wfv q.2) → (∀ v ∈ st, wfv v) →
  ∀ (p : Program) (l : Launch) (e : Env) (R : Room) (s : State) (m : MethodId) (args : Array Value) (below : List Frame) (meth : Method) (c : Code) (H : Heap) (locs : List Loc) (cells slots : Nat) (ls : Array Slot) (G : GG) (A : Nat → Prop) (Z : State → Prop),
    Cx p s m args c M → Wc G M.2.2.2.2 s A → Rm d R cells slots → Wd G h s A H locs → lv_has ls M.2.2.1 (lvr G lv) →
    (∀ (r : Option AV) (h' : Hp) (H' : Heap) (locs' : List Loc) (ls' : Array Slot) (pc' : Nat), Q r h' → wfh h' → (∀ v, r = some v → wfv v) → Wd G h' s A H' locs' → RetI M pc' r → W p l e R s m args below meth c H' locs' cells slots Z (F0 m pc' ls' (r.toList.map (rv G.2.1)))) →
    W p l e R s m args below meth c H locs cells slots Z (F0 m pc ls (st.map (rv G.2.1)))
section EL
variable {d : Nat} {M : MD} {pc : Nat} {lv : List (Nat × AV)} {st : List AV} {h : Hp} {Q : Option AV → Hp → Prop}
theorem lvr_at {G : GG} {k i : Nat} {v : AV} (hk : lv[k]? = some (i, v)) : (lvr G lv)[k]? = some (i, rv G.2.1 v) := by
  unfold lvr
  rw [List.getElem?_map, hk]
  rfl
theorem mem_lv {k i : Nat} {v : AV} (hk : lv[k]? = some (i, v)) (hw : ∀ q ∈ lv, wfv q.2) : wfv v := hw (i, v) (List.mem_of_getElem? hk)
theorem wst {v : AV} (h1 : wfv v) (h2 : ∀ v ∈ st, wfv v) : ∀ u ∈ v :: st, wfv u := List.forall_mem_cons.mpr ⟨h1, h2⟩
/-- fewer locals -/
theorem E_sub {lv' : List (Nat × AV)} (ks : List Nat) (hl : ks.filterMap (fun k => lv[k]?) = lv') (k : E d M pc lv' st h Q) : E d M pc lv st h Q := by
  intro w1 w2 w3 p l e R s m args below meth c H locs cells slots ls G A Z C K Rr D L hret
  refine k w1 (fun q hq => ?_) w3 p l e R s m args below meth c H locs cells slots ls G A Z C K Rr D (lv_sub L ks ?_) hret
  · rw [← hl] at hq
    obtain ⟨i, -, hi⟩ := List.mem_filterMap.mp hq
    exact w2 q (List.mem_of_getElem? hi)
  · subst hl
    unfold lv_pick lvr
    rw [List.map_filterMap]
    congr 1
    funext i
    rw [List.getElem?_map]
theorem E_ireturn {x : Int} (hd : decode M.2.1 pc = .ok (.ireturn, 1)) (hb : M.2.2.2.1 = some .int ∨ M.2.2.2.1 = some .boolean ∧ (x = 0 ∨ x = 1)) (hq : Q (some (vi x)) h) : E d M pc lv [vi x] h Q := by
  intro w1 w2 w3 p l e R s m args below meth c H locs cells slots ls G A Z C K Rr D L hret
  exact hret (some (vi x)) h H locs ls pc hq w1 (fun v hv => by cases hv; exact w3 _ List.mem_cons_self) D ⟨hd, hb⟩
theorem E_lreturn {x : Int} (hd : decode M.2.1 pc = .ok (.lreturn, 1)) (hb : M.2.2.2.1 = some .long) (hq : Q (some (vl x)) h) : E d M pc lv [vl x] h Q := by
  intro w1 w2 w3 p l e R s m args below meth c H locs cells slots ls G A Z C K Rr D L hret
  exact hret (some (vl x)) h H locs ls pc hq w1 (fun v hv => by cases hv; exact w3 _ List.mem_cons_self) D ⟨hd, hb⟩
theorem E_return (hd : decode M.2.1 pc = .ok (.return_, 1)) (hb : M.2.2.2.1 = none) (hq : Q none h) : E d M pc lv [] h Q := by
  intro w1 w2 w3 p l e R s m args below meth c H locs cells slots ls G A Z C K Rr D L hret
  exact hret none h H locs ls pc hq w1 (fun v hv => by cases hv) D ⟨hd, hb⟩
theorem E_iconst {n : Int} (hd : decode M.2.1 pc = .ok (.iconst n, 1)) (hn : rg n) (k : E d M (pc + 1) lv (vi n :: st) h Q) : E d M pc lv st h Q := by
  intro w1 w2 w3 p l e R s m args below meth c H locs cells slots ls G A Z C K Rr D L hret
  exact lv_iconst C.1 C.2.1 hd rfl (k w1 w2 (wst hn w3) p l e R s m args below meth c H locs cells slots ls G A Z C K Rr D L hret)
theorem E_bipush {n : Int} (hd : decode M.2.1 pc = .ok (.bipush n, 2)) (hn : -128 ≤ n ∧ n < 128) (k : E d M (pc + 2) lv (vi n :: st) h Q) : E d M pc lv st h Q := by
  intro w1 w2 w3 p l e R s m args below meth c H locs cells slots ls G A Z C K Rr D L hret
  have hr : rg n := by unfold rg; omega
  refine lv_bipush (v := Int32.ofInt n) C.1 C.2.1 hd ?_ (k w1 w2 (wst hr w3) p l e R s m args below meth c H locs cells slots ls G A Z C K Rr D L hret)
  apply Int32.toInt_inj.mp
  rw [Int8.toInt_toInt32, o32 hr]
  exact Int8.toInt_ofInt_of_le (by simpa using hn.1) (by simpa using hn.2)
theorem E_sipush {n : Int} (hd : decode M.2.1 pc = .ok (.sipush n, 3)) (hn : -32768 ≤ n ∧ n < 32768) (k : E d M (pc + 3) lv (vi n :: st) h Q) : E d M pc lv st h Q := by
  intro w1 w2 w3 p l e R s m args below meth c H locs cells slots ls G A Z C K Rr D L hret
  have hr : rg n := by unfold rg; omega
  refine lv_sipush (v := Int32.ofInt n) C.1 C.2.1 hd ?_ (k w1 w2 (wst hr w3) p l e R s m args below meth c H locs cells slots ls G A Z C K Rr D L hret)
  apply Int32.toInt_inj.mp
  rw [Int16.toInt_toInt32, o32 hr]
  exact Int16.toInt_ofInt_of_le (by simpa using hn.1) (by simpa using hn.2)
theorem E_iload_n {kk : Fin 4} {x : Int} (q i : Nat) (hd : decode M.2.1 pc = .ok (.iload_n kk, 1)) (hi : (kk : Nat) = i) (hl : lv[q]? = some (i, vi x)) (k : E d M (pc + 1) lv (vi x :: st) h Q) : E d M pc lv st h Q := by
  intro w1 w2 w3 p l e R s m args below meth c H locs cells slots ls G A Z C K Rr D L hret
  exact lv_iload_n C.1 C.2.1 hd hi (lv_at L q (lvr_at hl)) (k w1 w2 (wst (mem_lv hl w2) w3) p l e R s m args below meth c H locs cells slots ls G A Z C K Rr D L hret)
theorem E_iload {i : Nat} {x : Int} (q : Nat) (hd : decode M.2.1 pc = .ok (.iload i, 2)) (hl : lv[q]? = some (i, vi x)) (k : E d M (pc + 2) lv (vi x :: st) h Q) : E d M pc lv st h Q := by
  intro w1 w2 w3 p l e R s m args below meth c H locs cells slots ls G A Z C K Rr D L hret
  exact lv_iload C.1 C.2.1 hd (lv_at L q (lvr_at hl)) (k w1 w2 (wst (mem_lv hl w2) w3) p l e R s m args below meth c H locs cells slots ls G A Z C K Rr D L hret)
theorem E_lload_n {kk : Fin 4} {x : Int} (q i : Nat) (hd : decode M.2.1 pc = .ok (.lload_n kk, 1)) (hi : (kk : Nat) = i) (hl : lv[q]? = some (i, vl x)) (k : E d M (pc + 1) lv (vl x :: st) h Q) : E d M pc lv st h Q := by
  intro w1 w2 w3 p l e R s m args below meth c H locs cells slots ls G A Z C K Rr D L hret
  exact lv_lload_n C.1 C.2.1 hd hi (lv_at L q (lvr_at hl)) (k w1 w2 (wst (mem_lv hl w2) w3) p l e R s m args below meth c H locs cells slots ls G A Z C K Rr D L hret)
theorem E_lload {i : Nat} {x : Int} (q : Nat) (hd : decode M.2.1 pc = .ok (.lload i, 2)) (hl : lv[q]? = some (i, vl x)) (k : E d M (pc + 2) lv (vl x :: st) h Q) : E d M pc lv st h Q := by
  intro w1 w2 w3 p l e R s m args below meth c H locs cells slots ls G A Z C K Rr D L hret
  exact lv_lload C.1 C.2.1 hd (lv_at L q (lvr_at hl)) (k w1 w2 (wst (mem_lv hl w2) w3) p l e R s m args below meth c H locs cells slots ls G A Z C K Rr D L hret)
theorem E_aload_n {kk : Fin 4} {a : Int} (q i : Nat) (hd : decode M.2.1 pc = .ok (.aload_n kk, 1)) (hi : (kk : Nat) = i) (hl : lv[q]? = some (i, vr a)) (k : E d M (pc + 1) lv (vr a :: st) h Q) : E d M pc lv st h Q := by
  intro w1 w2 w3 p l e R s m args below meth c H locs cells slots ls G A Z C K Rr D L hret
  exact lv_aload_n C.1 C.2.1 hd hi (lv_at L q (lvr_at hl)) (k w1 w2 (wst (mem_lv hl w2) w3) p l e R s m args below meth c H locs cells slots ls G A Z C K Rr D L hret)
theorem E_aload {i : Nat} {a : Int} (q : Nat) (hd : decode M.2.1 pc = .ok (.aload i, 2)) (hl : lv[q]? = some (i, vr a)) (k : E d M (pc + 2) lv (vr a :: st) h Q) : E d M pc lv st h Q := by
  intro w1 w2 w3 p l e R s m args below meth c H locs cells slots ls G A Z C K Rr D L hret
  exact lv_aload C.1 C.2.1 hd (lv_at L q (lvr_at hl)) (k w1 w2 (wst (mem_lv hl w2) w3) p l e R s m args below meth c H locs cells slots ls G A Z C K Rr D L hret)
theorem lvr_store {G : GG} {i : Nat} {v : AV} : lvr G ((i, v) :: lv.filter (fun q => !(q.1 == i) && !(q.1 + 1 == i && cat q.2 == 2))) = (i, rv G.2.1 v) :: (lvr G lv).filter (fun q => !(q.1 == i) && !(q.1 + 1 == i && q.2.category == 2)) := by
  unfold lvr
  rw [List.map_cons, List.filter_map]
  congr 3
  funext q
  simp only [Function.comp, cat_rv]
theorem lvr_store2 {G : GG} {i : Nat} {v : AV} : lvr G ((i, v) :: lv.filter (fun q => !(q.1 == i) && (!(q.1 == i + 1) && !(q.1 + 1 == i && cat q.2 == 2)))) = (i, rv G.2.1 v) :: (lvr G lv).filter (fun q => !(q.1 == i) && (!(q.1 == i + 1) && !(q.1 + 1 == i && q.2.category == 2))) := by
  unfold lvr
  rw [List.map_cons, List.filter_map]
  congr 3
  funext q
  simp only [Function.comp, cat_rv]
theorem wlv_store {lv' : List (Nat × AV)} {i : Nat} {v : AV} {f : Nat × AV → Bool} (hl : (i, v) :: lv.filter f = lv') (hv : wfv v) (hw : ∀ q ∈ lv, wfv q.2) : ∀ q ∈ lv', wfv q.2 := by
  subst hl
  exact List.forall_mem_cons.mpr ⟨hv, fun q hq => hw q (List.mem_filter.mp hq).1⟩
theorem E_istore_n {kk : Fin 4} {i : Nat} {x : Int} {lv' : List (Nat × AV)} (hd : decode M.2.1 pc = .ok (.istore_n kk, 1)) (hi : (kk : Nat) = i) (hn : i < M.2.2.1) (hl : (i, vi x) :: lv.filter (fun q => !(q.1 == i) && !(q.1 + 1 == i && cat q.2 == 2)) = lv') (k : E d M (pc + 1) lv' st h Q) : E d M pc lv (vi x :: st) h Q := by
  intro w1 w2 w3 p l e R s m args below meth c H locs cells slots ls G A Z C K Rr D L hret
  have hx : wfv (vi x) := w3 _ List.mem_cons_self
  refine lv_istore_n (lv' := lvr G lv') C.1 C.2.1 hd hi L hn (by rw [← hl]; exact (lvr_store (G := G) (v := vi x)).symm) (fun ls' L' => ?_)
  exact k w1 (wlv_store hl hx w2) (fun v hv => w3 v (List.mem_cons_of_mem _ hv)) p l e R s m args below meth c H locs cells slots ls' G A Z C K Rr D L' hret
theorem E_istore {i : Nat} {x : Int} {lv' : List (Nat × AV)} (hd : decode M.2.1 pc = .ok (.istore i, 2)) (hn : i < M.2.2.1) (hl : (i, vi x) :: lv.filter (fun q => !(q.1 == i) && !(q.1 + 1 == i && cat q.2 == 2)) = lv') (k : E d M (pc + 2) lv' st h Q) : E d M pc lv (vi x :: st) h Q := by
  intro w1 w2 w3 p l e R s m args below meth c H locs cells slots ls G A Z C K Rr D L hret
  have hx : wfv (vi x) := w3 _ List.mem_cons_self
  refine lv_istore (lv' := lvr G lv') C.1 C.2.1 hd L hn (by rw [← hl]; exact (lvr_store (G := G) (v := vi x)).symm) (fun ls' L' => ?_)
  exact k w1 (wlv_store hl hx w2) (fun v hv => w3 v (List.mem_cons_of_mem _ hv)) p l e R s m args below meth c H locs cells slots ls' G A Z C K Rr D L' hret
theorem E_astore_n {kk : Fin 4} {i : Nat} {x : Int} {lv' : List (Nat × AV)} (hd : decode M.2.1 pc = .ok (.astore_n kk, 1)) (hi : (kk : Nat) = i) (hn : i < M.2.2.1) (hl : (i, vr x) :: lv.filter (fun q => !(q.1 == i) && !(q.1 + 1 == i && cat q.2 == 2)) = lv') (k : E d M (pc + 1) lv' st h Q) : E d M pc lv (vr x :: st) h Q := by
  intro w1 w2 w3 p l e R s m args below meth c H locs cells slots ls G A Z C K Rr D L hret
  have hx : wfv (vr x) := w3 _ List.mem_cons_self
  refine lv_astore_n (lv' := lvr G lv') C.1 C.2.1 hd hi L hn (by rw [← hl]; exact (lvr_store (G := G) (v := vr x)).symm) (fun ls' L' => ?_)
  exact k w1 (wlv_store hl hx w2) (fun v hv => w3 v (List.mem_cons_of_mem _ hv)) p l e R s m args below meth c H locs cells slots ls' G A Z C K Rr D L' hret
theorem E_astore {i : Nat} {x : Int} {lv' : List (Nat × AV)} (hd : decode M.2.1 pc = .ok (.astore i, 2)) (hn : i < M.2.2.1) (hl : (i, vr x) :: lv.filter (fun q => !(q.1 == i) && !(q.1 + 1 == i && cat q.2 == 2)) = lv') (k : E d M (pc + 2) lv' st h Q) : E d M pc lv (vr x :: st) h Q := by
  intro w1 w2 w3 p l e R s m args below meth c H locs cells slots ls G A Z C K Rr D L hret
  have hx : wfv (vr x) := w3 _ List.mem_cons_self
  refine lv_astore (lv' := lvr G lv') C.1 C.2.1 hd L hn (by rw [← hl]; exact (lvr_store (G := G) (v := vr x)).symm) (fun ls' L' => ?_)
  exact k w1 (wlv_store hl hx w2) (fun v hv => w3 v (List.mem_cons_of_mem _ hv)) p l e R s m args below meth c H locs cells slots ls' G A Z C K Rr D L' hret
theorem E_lstore_n {kk : Fin 4} {i : Nat} {x : Int} {lv' : List (Nat × AV)} (hd : decode M.2.1 pc = .ok (.lstore_n kk, 1)) (hi : (kk : Nat) = i) (hn : i + 1 < M.2.2.1) (hl : (i, vl x) :: lv.filter (fun q => !(q.1 == i) && (!(q.1 == i + 1) && !(q.1 + 1 == i && cat q.2 == 2))) = lv') (k : E d M (pc + 1) lv' st h Q) : E d M pc lv (vl x :: st) h Q := by
  intro w1 w2 w3 p l e R s m args below meth c H locs cells slots ls G A Z C K Rr D L hret
  have hx : wfv (vl x) := w3 _ List.mem_cons_self
  refine lv_lstore_n (lv' := lvr G lv') C.1 C.2.1 hd hi L hn (by rw [← hl]; exact (lvr_store2 (G := G) (v := vl x)).symm) (fun ls' L' => ?_)
  exact k w1 (wlv_store hl hx w2) (fun v hv => w3 v (List.mem_cons_of_mem _ hv)) p l e R s m args below meth c H locs cells slots ls' G A Z C K Rr D L' hret
theorem E_lstore {i : Nat} {x : Int} {lv' : List (Nat × AV)} (hd : decode M.2.1 pc = .ok (.lstore i, 2)) (hn : i + 1 < M.2.2.1) (hl : (i, vl x) :: lv.filter (fun q => !(q.1 == i) && (!(q.1 == i + 1) && !(q.1 + 1 == i && cat q.2 == 2))) = lv') (k : E d M (pc + 2) lv' st h Q) : E d M pc lv (vl x :: st) h Q := by
  intro w1 w2 w3 p l e R s m args below meth c H locs cells slots ls G A Z C K Rr D L hret
  have hx : wfv (vl x) := w3 _ List.mem_cons_self
  refine lv_lstore (lv' := lvr G lv') C.1 C.2.1 hd L hn (by rw [← hl]; exact (lvr_store2 (G := G) (v := vl x)).symm) (fun ls' L' => ?_)
  exact k w1 (wlv_store hl hx w2) (fun v hv => w3 v (List.mem_cons_of_mem _ hv)) p l e R s m args below meth c H locs cells slots ls' G A Z C K Rr D L' hret
theorem E_iinc {i : Nat} {n x : Int} {lv' : List (Nat × AV)} (q : Nat) (hd : decode M.2.1 pc = .ok (.iinc i n, 3)) (hq : lv[q]? = some (i, vi x)) (hr : rg (x + n)) (hn : i < M.2.2.1) (hl : (i, vi (x + n)) :: lv.filter (fun q => !(q.1 == i) && !(q.1 + 1 == i && cat q.2 == 2)) = lv') (k : E d M (pc + 3) lv' st h Q) : E d M pc lv st h Q := by
  intro w1 w2 w3 p l e R s m args below meth c H locs cells slots ls G A Z C K Rr D L hret
  refine lv_iinc (v := Int32.ofInt (x + n)) (lv' := lvr G lv') C.1 C.2.1 hd L (lvr_at hq) (Int32.ofInt_add ..).symm hn (by rw [← hl]; exact (lvr_store (G := G) (v := vi (x + n))).symm) (fun ls' L' => ?_)
  exact k w1 (wlv_store hl hr w2) w3 p l e R s m args below meth c H locs cells slots ls' G A Z C K Rr D L' hret
theorem E_iadd {x y : Int} (hd : decode M.2.1 pc = .ok (.iadd, 1)) (hr : rg (x + y)) (k : E d M (pc + 1) lv (vi (x + y) :: st) h Q) : E d M pc lv (vi y :: vi x :: st) h Q := by
  intro w1 w2 w3 p l e R s m args below meth c H locs cells slots ls G A Z C K Rr D L hret
  have k := k w1 w2 (wst hr (fun v hv => w3 v (List.mem_cons_of_mem _ (List.mem_cons_of_mem _ hv)))) p l e R s m args below meth c H locs cells slots ls G A Z C K Rr D L hret
  refine lv_iadd C.1 C.2.1 hd ?_
  rw [← Int32.ofInt_add]
  exact k
theorem E_isub {x y : Int} (hd : decode M.2.1 pc = .ok (.isub, 1)) (hr : rg (x - y)) (k : E d M (pc + 1) lv (vi (x - y) :: st) h Q) : E d M pc lv (vi y :: vi x :: st) h Q := by
  intro w1 w2 w3 p l e R s m args below meth c H locs cells slots ls G A Z C K Rr D L hret
  have k := k w1 w2 (wst hr (fun v hv => w3 v (List.mem_cons_of_mem _ (List.mem_cons_of_mem _ hv)))) p l e R s m args below meth c H locs cells slots ls G A Z C K Rr D L hret
  refine lv_isub C.1 C.2.1 hd ?_
  rw [← Int32.ofInt_sub]
  exact k
theorem E_imul {x y : Int} (hd : decode M.2.1 pc = .ok (.imul, 1)) (hr : rg (x * y)) (k : E d M (pc + 1) lv (vi (x * y) :: st) h Q) : E d M pc lv (vi y :: vi x :: st) h Q := by
  intro w1 w2 w3 p l e R s m args below meth c H locs cells slots ls G A Z C K Rr D L hret
  have k := k w1 w2 (wst hr (fun v hv => w3 v (List.mem_cons_of_mem _ (List.mem_cons_of_mem _ hv)))) p l e R s m args below meth c H locs cells slots ls G A Z C K Rr D L hret
  refine lv_imul C.1 C.2.1 hd ?_
  rw [← Int32.ofInt_mul]
  exact k
theorem rg_toInt (x : Int32) : rg x.toInt := ⟨by have := Int32.le_toInt x; simpa using this, by have := Int32.toInt_lt x; simpa using this⟩
theorem rgL_toInt (x : Int64) : rgL x.toInt := ⟨by have := Int64.le_toInt x; simpa using this, by have := Int64.toInt_lt x; simpa using this⟩
def j_iand (x y : Int) : Int := (Int32.ofInt x &&& Int32.ofInt y).toInt
theorem E_iand {x y : Int} (hd : decode M.2.1 pc = .ok (.iand, 1)) (k : E d M (pc + 1) lv (vi (j_iand x y) :: st) h Q) : E d M pc lv (vi y :: vi x :: st) h Q := by
  intro w1 w2 w3 p l e R s m args below meth c H locs cells slots ls G A Z C K Rr D L hret
  have k := k w1 w2 (wst (rg_toInt _) (fun v hv => w3 v (List.mem_cons_of_mem _ (List.mem_cons_of_mem _ hv)))) p l e R s m args below meth c H locs cells slots ls G A Z C K Rr D L hret
  refine lv_iand C.1 C.2.1 hd ?_
  have e1 : Int32.ofInt (j_iand x y) = (Int32.ofInt x &&& Int32.ofInt y) := Int32.ofInt_toInt _
  rw [← e1]
  exact k
def j_ior (x y : Int) : Int := (Int32.ofInt x ||| Int32.ofInt y).toInt
theorem E_ior {x y : Int} (hd : decode M.2.1 pc = .ok (.ior, 1)) (k : E d M (pc + 1) lv (vi (j_ior x y) :: st) h Q) : E d M pc lv (vi y :: vi x :: st) h Q := by
  intro w1 w2 w3 p l e R s m args below meth c H locs cells slots ls G A Z C K Rr D L hret
  have k := k w1 w2 (wst (rg_toInt _) (fun v hv => w3 v (List.mem_cons_of_mem _ (List.mem_cons_of_mem _ hv)))) p l e R s m args below meth c H locs cells slots ls G A Z C K Rr D L hret
  refine lv_ior C.1 C.2.1 hd ?_
  have e1 : Int32.ofInt (j_ior x y) = (Int32.ofInt x ||| Int32.ofInt y) := Int32.ofInt_toInt _
  rw [← e1]
  exact k
def j_ixor (x y : Int) : Int := (Int32.ofInt x ^^^ Int32.ofInt y).toInt
theorem E_ixor {x y : Int} (hd : decode M.2.1 pc = .ok (.ixor, 1)) (k : E d M (pc + 1) lv (vi (j_ixor x y) :: st) h Q) : E d M pc lv (vi y :: vi x :: st) h Q := by
  intro w1 w2 w3 p l e R s m args below meth c H locs cells slots ls G A Z C K Rr D L hret
  have k := k w1 w2 (wst (rg_toInt _) (fun v hv => w3 v (List.mem_cons_of_mem _ (List.mem_cons_of_mem _ hv)))) p l e R s m args below meth c H locs cells slots ls G A Z C K Rr D L hret
  refine lv_ixor C.1 C.2.1 hd ?_
  have e1 : Int32.ofInt (j_ixor x y) = (Int32.ofInt x ^^^ Int32.ofInt y) := Int32.ofInt_toInt _
  rw [← e1]
  exact k
def j_ishl (x y : Int) : Int := (Int32.ofInt x <<< (Int32.ofInt y &&& 31)).toInt
theorem E_ishl {x y : Int} (hd : decode M.2.1 pc = .ok (.ishl, 1)) (k : E d M (pc + 1) lv (vi (j_ishl x y) :: st) h Q) : E d M pc lv (vi y :: vi x :: st) h Q := by
  intro w1 w2 w3 p l e R s m args below meth c H locs cells slots ls G A Z C K Rr D L hret
  have k := k w1 w2 (wst (rg_toInt _) (fun v hv => w3 v (List.mem_cons_of_mem _ (List.mem_cons_of_mem _ hv)))) p l e R s m args below meth c H locs cells slots ls G A Z C K Rr D L hret
  refine lv_ishl C.1 C.2.1 hd ?_
  have e1 : Int32.ofInt (j_ishl x y) = (Int32.ofInt x <<< (Int32.ofInt y &&& 31)) := Int32.ofInt_toInt _
  rw [← e1]
  exact k
def j_ishr (x y : Int) : Int := (Int32.ofInt x >>> (Int32.ofInt y &&& 31)).toInt
theorem E_ishr {x y : Int} (hd : decode M.2.1 pc = .ok (.ishr, 1)) (k : E d M (pc + 1) lv (vi (j_ishr x y) :: st) h Q) : E d M pc lv (vi y :: vi x :: st) h Q := by
  intro w1 w2 w3 p l e R s m args below meth c H locs cells slots ls G A Z C K Rr D L hret
  have k := k w1 w2 (wst (rg_toInt _) (fun v hv => w3 v (List.mem_cons_of_mem _ (List.mem_cons_of_mem _ hv)))) p l e R s m args below meth c H locs cells slots ls G A Z C K Rr D L hret
  refine lv_ishr C.1 C.2.1 hd ?_
  have e1 : Int32.ofInt (j_ishr x y) = (Int32.ofInt x >>> (Int32.ofInt y &&& 31)) := Int32.ofInt_toInt _
  rw [← e1]
  exact k
def j_iushr (x y : Int) : Int := ((Int32.ofInt x).toUInt32 >>> ((Int32.ofInt y).toUInt32 &&& Int32.toUInt32 31)).toInt32.toInt
theorem E_iushr {x y : Int} (hd : decode M.2.1 pc = .ok (.iushr, 1)) (k : E d M (pc + 1) lv (vi (j_iushr x y) :: st) h Q) : E d M pc lv (vi y :: vi x :: st) h Q := by
  intro w1 w2 w3 p l e R s m args below meth c H locs cells slots ls G A Z C K Rr D L hret
  have k := k w1 w2 (wst (rg_toInt _) (fun v hv => w3 v (List.mem_cons_of_mem _ (List.mem_cons_of_mem _ hv)))) p l e R s m args below meth c H locs cells slots ls G A Z C K Rr D L hret
  refine lv_iushr C.1 C.2.1 hd rfl ?_
  have e1 : Int32.ofInt (j_iushr x y) = ((Int32.ofInt x).toUInt32 >>> ((Int32.ofInt y).toUInt32 &&& Int32.toUInt32 31)).toInt32 := Int32.ofInt_toInt _
  rw [← e1]
  exact k
def j_idiv (x y : Int) : Int := (Int32.ofInt x / Int32.ofInt y).toInt
theorem E_idiv {x y : Int} (hd : decode M.2.1 pc = .ok (.idiv, 1)) (hy : y ≠ 0) (k : E d M (pc + 1) lv (vi (j_idiv x y) :: st) h Q) : E d M pc lv (vi y :: vi x :: st) h Q := by
  intro w1 w2 w3 p l e R s m args below meth c H locs cells slots ls G A Z C K Rr D L hret
  have k := k w1 w2 (wst (rg_toInt _) (fun v hv => w3 v (List.mem_cons_of_mem _ (List.mem_cons_of_mem _ hv)))) p l e R s m args below meth c H locs cells slots ls G A Z C K Rr D L hret
  have hry : rg y := w3 (vi y) List.mem_cons_self
  refine lv_idiv C.1 C.2.1 hd (by rw [o32_0, o32_eq hry rg0]; exact hy) ?_
  have e1 : Int32.ofInt (j_idiv x y) = (Int32.ofInt x / Int32.ofInt y) := Int32.ofInt_toInt _
  rw [← e1]
  exact k
def j_irem (x y : Int) : Int := (Int32.ofInt x - Int32.ofInt x / Int32.ofInt y * Int32.ofInt y).toInt
theorem E_irem {x y : Int} (hd : decode M.2.1 pc = .ok (.irem, 1)) (hy : y ≠ 0) (k : E d M (pc + 1) lv (vi (j_irem x y) :: st) h Q) : E d M pc lv (vi y :: vi x :: st) h Q := by
  intro w1 w2 w3 p l e R s m args below meth c H locs cells slots ls G A Z C K Rr D L hret
  have k := k w1 w2 (wst (rg_toInt _) (fun v hv => w3 v (List.mem_cons_of_mem _ (List.mem_cons_of_mem _ hv)))) p l e R s m args below meth c H locs cells slots ls G A Z C K Rr D L hret
  have hry : rg y := w3 (vi y) List.mem_cons_self
  refine lv_irem C.1 C.2.1 hd (by rw [o32_0, o32_eq hry rg0]; exact hy) ?_
  have e1 : Int32.ofInt (j_irem x y) = (Int32.ofInt x - Int32.ofInt x / Int32.ofInt y * Int32.ofInt y) := Int32.ofInt_toInt _
  rw [← e1]
  exact k
def j_ladd (x y : Int) : Int := (Int64.ofInt x + Int64.ofInt y).toInt
theorem E_ladd {x y : Int} (hd : decode M.2.1 pc = .ok (.ladd, 1)) (k : E d M (pc + 1) lv (vl (j_ladd x y) :: st) h Q) : E d M pc lv (vl y :: vl x :: st) h Q := by
  intro w1 w2 w3 p l e R s m args below meth c H locs cells slots ls G A Z C K Rr D L hret
  have k := k w1 w2 (wst (rgL_toInt _) (fun v hv => w3 v (List.mem_cons_of_mem _ (List.mem_cons_of_mem _ hv)))) p l e R s m args below meth c H locs cells slots ls G A Z C K Rr D L hret
  refine lv_ladd C.1 C.2.1 hd ?_
  have e1 : Int64.ofInt (j_ladd x y) = (Int64.ofInt x + Int64.ofInt y) := Int64.ofInt_toInt _
  rw [← e1]
  exact k
def j_lsub (x y : Int) : Int := (Int64.ofInt x - Int64.ofInt y).toInt
theorem E_lsub {x y : Int} (hd : decode M.2.1 pc = .ok (.lsub, 1)) (k : E d M (pc + 1) lv (vl (j_lsub x y) :: st) h Q) : E d M pc lv (vl y :: vl x :: st) h Q := by
  intro w1 w2 w3 p l e R s m args below meth c H locs cells slots ls G A Z C K Rr D L hret
  have k := k w1 w2 (wst (rgL_toInt _) (fun v hv => w3 v (List.mem_cons_of_mem _ (List.mem_cons_of_mem _ hv)))) p l e R s m args below meth c H locs cells slots ls G A Z C K Rr D L hret
  refine lv_lsub C.1 C.2.1 hd ?_
  have e1 : Int64.ofInt (j_lsub x y) = (Int64.ofInt x - Int64.ofInt y) := Int64.ofInt_toInt _
  rw [← e1]
  exact k
def j_lmul (x y : Int) : Int := (Int64.ofInt x * Int64.ofInt y).toInt
theorem E_lmul {x y : Int} (hd : decode M.2.1 pc = .ok (.lmul, 1)) (k : E d M (pc + 1) lv (vl (j_lmul x y) :: st) h Q) : E d M pc lv (vl y :: vl x :: st) h Q := by
  intro w1 w2 w3 p l e R s m args below meth c H locs cells slots ls G A Z C K Rr D L hret
  have k := k w1 w2 (wst (rgL_toInt _) (fun v hv => w3 v (List.mem_cons_of_mem _ (List.mem_cons_of_mem _ hv)))) p l e R s m args below meth c H locs cells slots ls G A Z C K Rr D L hret
  refine lv_lmul C.1 C.2.1 hd ?_
  have e1 : Int64.ofInt (j_lmul x y) = (Int64.ofInt x * Int64.ofInt y) := Int64.ofInt_toInt _
  rw [← e1]
  exact k
def j_land (x y : Int) : Int := (Int64.ofInt x &&& Int64.ofInt y).toInt
theorem E_land {x y : Int} (hd : decode M.2.1 pc = .ok (.land, 1)) (k : E d M (pc + 1) lv (vl (j_land x y) :: st) h Q) : E d M pc lv (vl y :: vl x :: st) h Q := by
  intro w1 w2 w3 p l e R s m args below meth c H locs cells slots ls G A Z C K Rr D L hret
  have k := k w1 w2 (wst (rgL_toInt _) (fun v hv => w3 v (List.mem_cons_of_mem _ (List.mem_cons_of_mem _ hv)))) p l e R s m args below meth c H locs cells slots ls G A Z C K Rr D L hret
  refine lv_land C.1 C.2.1 hd ?_
  have e1 : Int64.ofInt (j_land x y) = (Int64.ofInt x &&& Int64.ofInt y) := Int64.ofInt_toInt _
  rw [← e1]
  exact k
def j_lor (x y : Int) : Int := (Int64.ofInt x ||| Int64.ofInt y).toInt
theorem E_lor {x y : Int} (hd : decode M.2.1 pc = .ok (.lor, 1)) (k : E d M (pc + 1) lv (vl (j_lor x y) :: st) h Q) : E d M pc lv (vl y :: vl x :: st) h Q := by
  intro w1 w2 w3 p l e R s m args below meth c H locs cells slots ls G A Z C K Rr D L hret
  have k := k w1 w2 (wst (rgL_toInt _) (fun v hv => w3 v (List.mem_cons_of_mem _ (List.mem_cons_of_mem _ hv)))) p l e R s m args below meth c H locs cells slots ls G A Z C K Rr D L hret
  refine lv_lor C.1 C.2.1 hd ?_
  have e1 : Int64.ofInt (j_lor x y) = (Int64.ofInt x ||| Int64.ofInt y) := Int64.ofInt_toInt _
  rw [← e1]
  exact k
def j_lxor (x y : Int) : Int := (Int64.ofInt x ^^^ Int64.ofInt y).toInt
theorem E_lxor {x y : Int} (hd : decode M.2.1 pc = .ok (.lxor, 1)) (k : E d M (pc + 1) lv (vl (j_lxor x y) :: st) h Q) : E d M pc lv (vl y :: vl x :: st) h Q := by
  intro w1 w2 w3 p l e R s m args below meth c H locs cells slots ls G A Z C K Rr D L hret
  have k := k w1 w2 (wst (rgL_toInt _) (fun v hv => w3 v (List.mem_cons_of_mem _ (List.mem_cons_of_mem _ hv)))) p l e R s m args below meth c H locs cells slots ls G A Z C K Rr D L hret
  refine lv_lxor C.1 C.2.1 hd ?_
  have e1 : Int64.ofInt (j_lxor x y) = (Int64.ofInt x ^^^ Int64.ofInt y) := Int64.ofInt_toInt _
  rw [← e1]
  exact k
def j_lushr (x y : Int) : Int := ((Int64.ofInt x).toUInt64 >>> ((Int32.ofInt y).toInt64.toUInt64 &&& Int64.toUInt64 63)).toInt64.toInt
theorem E_lushr {x y : Int} (hd : decode M.2.1 pc = .ok (.lushr, 1)) (k : E d M (pc + 1) lv (vl (j_lushr x y) :: st) h Q) : E d M pc lv (vi y :: vl x :: st) h Q := by
  intro w1 w2 w3 p l e R s m args below meth c H locs cells slots ls G A Z C K Rr D L hret
  have k := k w1 w2 (wst (rgL_toInt _) (fun v hv => w3 v (List.mem_cons_of_mem _ (List.mem_cons_of_mem _ hv)))) p l e R s m args below meth c H locs cells slots ls G A Z C K Rr D L hret
  refine lv_lushr C.1 C.2.1 hd rfl ?_
  have e1 : Int64.ofInt (j_lushr x y) = ((Int64.ofInt x).toUInt64 >>> ((Int32.ofInt y).toInt64.toUInt64 &&& Int64.toUInt64 63)).toInt64 := Int64.ofInt_toInt _
  rw [← e1]
  exact k
def j_lshl (x y : Int) : Int := (Int64.ofInt x <<< ((Int32.ofInt y).toInt64 &&& 63)).toInt
theorem E_lshl {x y : Int} (hd : decode M.2.1 pc = .ok (.lshl, 1)) (k : E d M (pc + 1) lv (vl (j_lshl x y) :: st) h Q) : E d M pc lv (vi y :: vl x :: st) h Q := by
  intro w1 w2 w3 p l e R s m args below meth c H locs cells slots ls G A Z C K Rr D L hret
  have k := k w1 w2 (wst (rgL_toInt _) (fun v hv => w3 v (List.mem_cons_of_mem _ (List.mem_cons_of_mem _ hv)))) p l e R s m args below meth c H locs cells slots ls G A Z C K Rr D L hret
  refine lv_lshl C.1 C.2.1 hd rfl ?_
  have e1 : Int64.ofInt (j_lshl x y) = (Int64.ofInt x <<< ((Int32.ofInt y).toInt64 &&& 63)) := Int64.ofInt_toInt _
  rw [← e1]
  exact k
theorem E_i2l {x : Int} (hd : decode M.2.1 pc = .ok (.i2l, 1)) (k : E d M (pc + 1) lv (vl x :: st) h Q) : E d M pc lv (vi x :: st) h Q := by
  intro w1 w2 w3 p l e R s m args below meth c H locs cells slots ls G A Z C K Rr D L hret
  have hx : rg x := w3 (vi x) List.mem_cons_self
  have hxl : rgL x := ⟨by have := hx.1; omega, by have := hx.2; omega⟩
  refine lv_i2l (v := Int64.ofInt x) C.1 C.2.1 hd ?_ (k w1 w2 (wst hxl (fun v hv => w3 v (List.mem_cons_of_mem _ hv))) p l e R s m args below meth c H locs cells slots ls G A Z C K Rr D L hret)
  apply Int64.toInt_inj.mp
  rw [Int32.toInt_toInt64, o32 hx, o64 hxl]
def j_l2i (x : Int) : Int := (Int64.ofInt x).toInt32.toInt
theorem E_l2i {x : Int} (hd : decode M.2.1 pc = .ok (.l2i, 1)) (k : E d M (pc + 1) lv (vi (j_l2i x) :: st) h Q) : E d M pc lv (vl x :: st) h Q := by
  intro w1 w2 w3 p l e R s m args below meth c H locs cells slots ls G A Z C K Rr D L hret
  exact lv_l2i (v := Int32.ofInt (j_l2i x)) C.1 C.2.1 hd (Int32.ofInt_toInt _).symm (k w1 w2 (wst (rg_toInt _) (fun v hv => w3 v (List.mem_cons_of_mem _ hv))) p l e R s m args below meth c H locs cells slots ls G A Z C K Rr D L hret)
def j_lcmp (x y : Int) : Int := if y < x then 1 else if x = y then 0 else -1
theorem E_lcmp {x y : Int} (hd : decode M.2.1 pc = .ok (.lcmp, 1)) (k : E d M (pc + 1) lv (vi (j_lcmp x y) :: st) h Q) : E d M pc lv (vl y :: vl x :: st) h Q := by
  intro w1 w2 w3 p l e R s m args below meth c H locs cells slots ls G A Z C K Rr D L hret
  have hy : rgL y := w3 (vl y) List.mem_cons_self
  have hx : rgL x := w3 (vl x) (List.mem_cons_of_mem _ List.mem_cons_self)
  have hr : rg (j_lcmp x y) := by unfold j_lcmp rg; split <;> (try split) <;> omega
  have k := k w1 w2 (wst hr (fun v hv => w3 v (List.mem_cons_of_mem _ (List.mem_cons_of_mem _ hv)))) p l e R s m args below meth c H locs cells slots ls G A Z C K Rr D L hret
  refine W.lcmp C.1 C.2.1 hd ?_
  have e1 : Int32.ofInt (j_lcmp x y) = lg_cmp (Int64.ofInt x) (Int64.ofInt y) := by
    unfold j_lcmp lg_cmp
    simp only [Int64.lt_iff_toInt_lt, ← Int64.toInt_inj, o64 hx, o64 hy, gt_iff_lt]
    by_cases c1 : y < x
    · simp [c1]
    · by_cases c2 : x = y
      · simp [c2]
      · simp [c1, c2]
  rw [← e1]
  exact k
theorem E_lconst {n : Fin 2} (hd : decode M.2.1 pc = .ok (.lconst n, 1)) (k : E d M (pc + 1) lv (vl ((n : Nat) : Int) :: st) h Q) : E d M pc lv st h Q := by
  intro w1 w2 w3 p l e R s m args below meth c H locs cells slots ls G A Z C K Rr D L hret
  have hr : rgL ((n : Nat) : Int) := by unfold rgL; omega
  exact lv_lconst (v := Int64.ofInt ((n : Nat) : Int)) C.1 C.2.1 hd rfl (k w1 w2 (wst hr w3) p l e R s m args below meth c H locs cells slots ls G A Z C K Rr D L hret)
theorem E_ldc2 {i : Nat} {v : Int64} {z : Int} (hd : decode M.2.1 pc = .ok (.ldc2_w i, 3)) (hc : Cond.constantLong M.1.cls i v ∈ gtb) (hv : v.toInt = z) (k : E d M (pc + 3) lv (vl z :: st) h Q) : E d M pc lv st h Q := by
  intro w1 w2 w3 p l e R s m args below meth c H locs cells slots ls G A Z C K Rr D L hret
  subst hv
  have k := k w1 w2 (wst (rgL_toInt v) w3) p l e R s m args below meth c H locs cells slots ls G A Z C K Rr D L hret
  refine lv_ldc2 C.1 C.2.1 C.2.2.2.1 (C.2.2.2.2 _ hc) hd ?_
  have e1 : Int64.ofInt v.toInt = v := Int64.ofInt_toInt _
  rw [← e1]
  exact k
theorem E_ldcw {i : Nat} {v : Int32} {z : Int} (hd : decode M.2.1 pc = .ok (.ldc_w i, 3)) (hc : Cond.constant M.1.cls i v ∈ gtb) (hv : v.toInt = z) (k : E d M (pc + 3) lv (vi z :: st) h Q) : E d M pc lv st h Q := by
  intro w1 w2 w3 p l e R s m args below meth c H locs cells slots ls G A Z C K Rr D L hret
  subst hv
  have k := k w1 w2 (wst (rg_toInt v) w3) p l e R s m args below meth c H locs cells slots ls G A Z C K Rr D L hret
  refine lv_ldcw C.1 C.2.1 C.2.2.2.1 (C.2.2.2.2 _ hc) hd ?_
  have e1 : Int32.ofInt v.toInt = v := Int32.ofInt_toInt _
  rw [← e1]
  exact k
theorem E_icmp_eq {x y : Int} {off : Int} (tgt : Nat) (hd : decode M.2.1 pc = .ok (.if_icmp .eq off, 3)) (ht : (pc : Int) + off = (tgt : Int)) (kt : x = y → E d M tgt lv st h Q) (kf : ¬ x = y → E d M (pc + 3) lv st h Q) : E d M pc lv (vi y :: vi x :: st) h Q := by
  intro w1 w2 w3 p l e R s m args below meth c H locs cells slots ls G A Z C K Rr D L hret
  have hy : rg y := w3 (vi y) List.mem_cons_self
  have hx : rg x := w3 (vi x) (List.mem_cons_of_mem _ List.mem_cons_self)
  have cv : (Int32.ofInt x = Int32.ofInt y) ↔ (x = y) := (o32_eq hx hy)
  exact lv_icmp_eq C.1 C.2.1 hd ht (fun q => kt (cv.mp q) w1 w2 (fun v hv => w3 v (List.mem_cons_of_mem _ (List.mem_cons_of_mem _ hv))) p l e R s m args below meth c H locs cells slots ls G A Z C K Rr D L hret) (fun q => kf (fun z => q (cv.mpr z)) w1 w2 (fun v hv => w3 v (List.mem_cons_of_mem _ (List.mem_cons_of_mem _ hv))) p l e R s m args below meth c H locs cells slots ls G A Z C K Rr D L hret)
theorem E_if_eq {x : Int} {off : Int} (tgt : Nat) (hd : decode M.2.1 pc = .ok (.ifCond .eq off, 3)) (ht : (pc : Int) + off = (tgt : Int)) (kt : x = 0 → E d M tgt lv st h Q) (kf : ¬ x = 0 → E d M (pc + 3) lv st h Q) : E d M pc lv (vi x :: st) h Q := by
  intro w1 w2 w3 p l e R s m args below meth c H locs cells slots ls G A Z C K Rr D L hret
  have hx : rg x := w3 (vi x) List.mem_cons_self
  have cv : (Int32.ofInt x = 0) ↔ (x = 0) := (by rw [o32_0]; exact o32_eq hx rg0)
  exact lv_if_eq C.1 C.2.1 hd ht (fun q => kt (cv.mp q) w1 w2 (fun v hv => w3 v (List.mem_cons_of_mem _ hv)) p l e R s m args below meth c H locs cells slots ls G A Z C K Rr D L hret) (fun q => kf (fun z => q (cv.mpr z)) w1 w2 (fun v hv => w3 v (List.mem_cons_of_mem _ hv)) p l e R s m args below meth c H locs cells slots ls G A Z C K Rr D L hret)
theorem E_icmp_ne {x y : Int} {off : Int} (tgt : Nat) (hd : decode M.2.1 pc = .ok (.if_icmp .ne off, 3)) (ht : (pc : Int) + off = (tgt : Int)) (kt : x ≠ y → E d M tgt lv st h Q) (kf : x = y → E d M (pc + 3) lv st h Q) : E d M pc lv (vi y :: vi x :: st) h Q := by
  intro w1 w2 w3 p l e R s m args below meth c H locs cells slots ls G A Z C K Rr D L hret
  have hy : rg y := w3 (vi y) List.mem_cons_self
  have hx : rg x := w3 (vi x) (List.mem_cons_of_mem _ List.mem_cons_self)
  have cv : (Int32.ofInt x ≠ Int32.ofInt y) ↔ (x ≠ y) := (not_congr (o32_eq hx hy))
  exact lv_icmp_ne C.1 C.2.1 hd ht (fun q => kt (cv.mp q) w1 w2 (fun v hv => w3 v (List.mem_cons_of_mem _ (List.mem_cons_of_mem _ hv))) p l e R s m args below meth c H locs cells slots ls G A Z C K Rr D L hret) (fun q => kf ((o32_eq hx hy).mp q) w1 w2 (fun v hv => w3 v (List.mem_cons_of_mem _ (List.mem_cons_of_mem _ hv))) p l e R s m args below meth c H locs cells slots ls G A Z C K Rr D L hret)
theorem E_if_ne {x : Int} {off : Int} (tgt : Nat) (hd : decode M.2.1 pc = .ok (.ifCond .ne off, 3)) (ht : (pc : Int) + off = (tgt : Int)) (kt : x ≠ 0 → E d M tgt lv st h Q) (kf : x = 0 → E d M (pc + 3) lv st h Q) : E d M pc lv (vi x :: st) h Q := by
  intro w1 w2 w3 p l e R s m args below meth c H locs cells slots ls G A Z C K Rr D L hret
  have hx : rg x := w3 (vi x) List.mem_cons_self
  have cv : (Int32.ofInt x ≠ 0) ↔ (x ≠ 0) := (by rw [o32_0]; exact not_congr (o32_eq hx rg0))
  exact lv_if_ne C.1 C.2.1 hd ht (fun q => kt (cv.mp q) w1 w2 (fun v hv => w3 v (List.mem_cons_of_mem _ hv)) p l e R s m args below meth c H locs cells slots ls G A Z C K Rr D L hret) (fun q => kf ((o32_eq hx rg0).mp (by rw [← o32_0]; exact q)) w1 w2 (fun v hv => w3 v (List.mem_cons_of_mem _ hv)) p l e R s m args below meth c H locs cells slots ls G A Z C K Rr D L hret)
theorem E_icmp_lt {x y : Int} {off : Int} (tgt : Nat) (hd : decode M.2.1 pc = .ok (.if_icmp .lt off, 3)) (ht : (pc : Int) + off = (tgt : Int)) (kt : x < y → E d M tgt lv st h Q) (kf : ¬ x < y → E d M (pc + 3) lv st h Q) : E d M pc lv (vi y :: vi x :: st) h Q := by
  intro w1 w2 w3 p l e R s m args below meth c H locs cells slots ls G A Z C K Rr D L hret
  have hy : rg y := w3 (vi y) List.mem_cons_self
  have hx : rg x := w3 (vi x) (List.mem_cons_of_mem _ List.mem_cons_self)
  have cv : (Int32.ofInt x < Int32.ofInt y) ↔ (x < y) := (o32_lt hx hy)
  exact lv_icmp_lt C.1 C.2.1 hd ht (fun q => kt (cv.mp q) w1 w2 (fun v hv => w3 v (List.mem_cons_of_mem _ (List.mem_cons_of_mem _ hv))) p l e R s m args below meth c H locs cells slots ls G A Z C K Rr D L hret) (fun q => kf (fun z => q (cv.mpr z)) w1 w2 (fun v hv => w3 v (List.mem_cons_of_mem _ (List.mem_cons_of_mem _ hv))) p l e R s m args below meth c H locs cells slots ls G A Z C K Rr D L hret)
theorem E_if_lt {x : Int} {off : Int} (tgt : Nat) (hd : decode M.2.1 pc = .ok (.ifCond .lt off, 3)) (ht : (pc : Int) + off = (tgt : Int)) (kt : x < 0 → E d M tgt lv st h Q) (kf : ¬ x < 0 → E d M (pc + 3) lv st h Q) : E d M pc lv (vi x :: st) h Q := by
  intro w1 w2 w3 p l e R s m args below meth c H locs cells slots ls G A Z C K Rr D L hret
  have hx : rg x := w3 (vi x) List.mem_cons_self
  have cv : (Int32.ofInt x < 0) ↔ (x < 0) := (by rw [o32_0]; exact o32_lt hx rg0)
  exact lv_if_lt C.1 C.2.1 hd ht (fun q => kt (cv.mp q) w1 w2 (fun v hv => w3 v (List.mem_cons_of_mem _ hv)) p l e R s m args below meth c H locs cells slots ls G A Z C K Rr D L hret) (fun q => kf (fun z => q (cv.mpr z)) w1 w2 (fun v hv => w3 v (List.mem_cons_of_mem _ hv)) p l e R s m args below meth c H locs cells slots ls G A Z C K Rr D L hret)
theorem E_icmp_ge {x y : Int} {off : Int} (tgt : Nat) (hd : decode M.2.1 pc = .ok (.if_icmp .ge off, 3)) (ht : (pc : Int) + off = (tgt : Int)) (kt : x ≥ y → E d M tgt lv st h Q) (kf : ¬ x ≥ y → E d M (pc + 3) lv st h Q) : E d M pc lv (vi y :: vi x :: st) h Q := by
  intro w1 w2 w3 p l e R s m args below meth c H locs cells slots ls G A Z C K Rr D L hret
  have hy : rg y := w3 (vi y) List.mem_cons_self
  have hx : rg x := w3 (vi x) (List.mem_cons_of_mem _ List.mem_cons_self)
  have cv : (Int32.ofInt x ≥ Int32.ofInt y) ↔ (x ≥ y) := (o32_ge hx hy)
  exact lv_icmp_ge C.1 C.2.1 hd ht (fun q => kt (cv.mp q) w1 w2 (fun v hv => w3 v (List.mem_cons_of_mem _ (List.mem_cons_of_mem _ hv))) p l e R s m args below meth c H locs cells slots ls G A Z C K Rr D L hret) (fun q => kf (fun z => q (cv.mpr z)) w1 w2 (fun v hv => w3 v (List.mem_cons_of_mem _ (List.mem_cons_of_mem _ hv))) p l e R s m args below meth c H locs cells slots ls G A Z C K Rr D L hret)
theorem E_if_ge {x : Int} {off : Int} (tgt : Nat) (hd : decode M.2.1 pc = .ok (.ifCond .ge off, 3)) (ht : (pc : Int) + off = (tgt : Int)) (kt : x ≥ 0 → E d M tgt lv st h Q) (kf : ¬ x ≥ 0 → E d M (pc + 3) lv st h Q) : E d M pc lv (vi x :: st) h Q := by
  intro w1 w2 w3 p l e R s m args below meth c H locs cells slots ls G A Z C K Rr D L hret
  have hx : rg x := w3 (vi x) List.mem_cons_self
  have cv : (Int32.ofInt x ≥ 0) ↔ (x ≥ 0) := (by rw [o32_0]; exact o32_ge hx rg0)
  exact lv_if_ge C.1 C.2.1 hd ht (fun q => kt (cv.mp q) w1 w2 (fun v hv => w3 v (List.mem_cons_of_mem _ hv)) p l e R s m args below meth c H locs cells slots ls G A Z C K Rr D L hret) (fun q => kf (fun z => q (cv.mpr z)) w1 w2 (fun v hv => w3 v (List.mem_cons_of_mem _ hv)) p l e R s m args below meth c H locs cells slots ls G A Z C K Rr D L hret)
theorem E_icmp_gt {x y : Int} {off : Int} (tgt : Nat) (hd : decode M.2.1 pc = .ok (.if_icmp .gt off, 3)) (ht : (pc : Int) + off = (tgt : Int)) (kt : x > y → E d M tgt lv st h Q) (kf : ¬ x > y → E d M (pc + 3) lv st h Q) : E d M pc lv (vi y :: vi x :: st) h Q := by
  intro w1 w2 w3 p l e R s m args below meth c H locs cells slots ls G A Z C K Rr D L hret
  have hy : rg y := w3 (vi y) List.mem_cons_self
  have hx : rg x := w3 (vi x) (List.mem_cons_of_mem _ List.mem_cons_self)
  have cv : (Int32.ofInt x > Int32.ofInt y) ↔ (x > y) := (o32_gt hx hy)
  exact lv_icmp_gt C.1 C.2.1 hd ht (fun q => kt (cv.mp q) w1 w2 (fun v hv => w3 v (List.mem_cons_of_mem _ (List.mem_cons_of_mem _ hv))) p l e R s m args below meth c H locs cells slots ls G A Z C K Rr D L hret) (fun q => kf (fun z => q (cv.mpr z)) w1 w2 (fun v hv => w3 v (List.mem_cons_of_mem _ (List.mem_cons_of_mem _ hv))) p l e R s m args below meth c H locs cells slots ls G A Z C K Rr D L hret)
theorem E_if_gt {x : Int} {off : Int} (tgt : Nat) (hd : decode M.2.1 pc = .ok (.ifCond .gt off, 3)) (ht : (pc : Int) + off = (tgt : Int)) (kt : x > 0 → E d M tgt lv st h Q) (kf : ¬ x > 0 → E d M (pc + 3) lv st h Q) : E d M pc lv (vi x :: st) h Q := by
  intro w1 w2 w3 p l e R s m args below meth c H locs cells slots ls G A Z C K Rr D L hret
  have hx : rg x := w3 (vi x) List.mem_cons_self
  have cv : (Int32.ofInt x > 0) ↔ (x > 0) := (by rw [o32_0]; exact o32_gt hx rg0)
  exact lv_if_gt C.1 C.2.1 hd ht (fun q => kt (cv.mp q) w1 w2 (fun v hv => w3 v (List.mem_cons_of_mem _ hv)) p l e R s m args below meth c H locs cells slots ls G A Z C K Rr D L hret) (fun q => kf (fun z => q (cv.mpr z)) w1 w2 (fun v hv => w3 v (List.mem_cons_of_mem _ hv)) p l e R s m args below meth c H locs cells slots ls G A Z C K Rr D L hret)
theorem E_icmp_le {x y : Int} {off : Int} (tgt : Nat) (hd : decode M.2.1 pc = .ok (.if_icmp .le off, 3)) (ht : (pc : Int) + off = (tgt : Int)) (kt : x ≤ y → E d M tgt lv st h Q) (kf : ¬ x ≤ y → E d M (pc + 3) lv st h Q) : E d M pc lv (vi y :: vi x :: st) h Q := by
  intro w1 w2 w3 p l e R s m args below meth c H locs cells slots ls G A Z C K Rr D L hret
  have hy : rg y := w3 (vi y) List.mem_cons_self
  have hx : rg x := w3 (vi x) (List.mem_cons_of_mem _ List.mem_cons_self)
  have cv : (Int32.ofInt x ≤ Int32.ofInt y) ↔ (x ≤ y) := (o32_le hx hy)
  exact lv_icmp_le C.1 C.2.1 hd ht (fun q => kt (cv.mp q) w1 w2 (fun v hv => w3 v (List.mem_cons_of_mem _ (List.mem_cons_of_mem _ hv))) p l e R s m args below meth c H locs cells slots ls G A Z C K Rr D L hret) (fun q => kf (fun z => q (cv.mpr z)) w1 w2 (fun v hv => w3 v (List.mem_cons_of_mem _ (List.mem_cons_of_mem _ hv))) p l e R s m args below meth c H locs cells slots ls G A Z C K Rr D L hret)
theorem E_if_le {x : Int} {off : Int} (tgt : Nat) (hd : decode M.2.1 pc = .ok (.ifCond .le off, 3)) (ht : (pc : Int) + off = (tgt : Int)) (kt : x ≤ 0 → E d M tgt lv st h Q) (kf : ¬ x ≤ 0 → E d M (pc + 3) lv st h Q) : E d M pc lv (vi x :: st) h Q := by
  intro w1 w2 w3 p l e R s m args below meth c H locs cells slots ls G A Z C K Rr D L hret
  have hx : rg x := w3 (vi x) List.mem_cons_self
  have cv : (Int32.ofInt x ≤ 0) ↔ (x ≤ 0) := (by rw [o32_0]; exact o32_le hx rg0)
  exact lv_if_le C.1 C.2.1 hd ht (fun q => kt (cv.mp q) w1 w2 (fun v hv => w3 v (List.mem_cons_of_mem _ hv)) p l e R s m args below meth c H locs cells slots ls G A Z C K Rr D L hret) (fun q => kf (fun z => q (cv.mpr z)) w1 w2 (fun v hv => w3 v (List.mem_cons_of_mem _ hv)) p l e R s m args below meth c H locs cells slots ls G A Z C K Rr D L hret)
theorem E_goto {off : Int} (tgt : Nat) (hd : decode M.2.1 pc = .ok (.goto off, 3)) (ht : (pc : Int) + off = (tgt : Int)) (k : E d M tgt lv st h Q) : E d M pc lv st h Q := by
  intro w1 w2 w3 p l e R s m args below meth c H locs cells slots ls G A Z C K Rr D L hret
  exact lv_goto C.1 C.2.1 hd ht (k w1 w2 w3 p l e R s m args below meth c H locs cells slots ls G A Z C K Rr D L hret)
theorem E_tableIn {dflt lo hi : Int} {offs : Array Int} {len : Nat} {x off : Int} (tgt : Nat) (hd : decode M.2.1 pc = .ok (.tableswitch dflt lo hi offs, len)) (h1 : ¬ x < lo) (h2 : ¬ hi < x) (ho : offs[(x - lo).toNat]? = some off) (ht : (pc : Int) + off = (tgt : Int)) (k : E d M tgt lv st h Q) : E d M pc lv (vi x :: st) h Q := by
  intro w1 w2 w3 p l e R s m args below meth c H locs cells slots ls G A Z C K Rr D L hret
  have hx : rg x := w3 (vi x) List.mem_cons_self
  exact lv_tableIn C.1 C.2.1 hd (by rw [o32 hx]; exact h1) (by rw [o32 hx]; exact h2) (by rw [o32 hx]; exact ho) ht (k w1 w2 (fun v hv => w3 v (List.mem_cons_of_mem _ hv)) p l e R s m args below meth c H locs cells slots ls G A Z C K Rr D L hret)
theorem E_tableOut {dflt lo hi : Int} {offs : Array Int} {len : Nat} {x : Int} (tgt : Nat) (hd : decode M.2.1 pc = .ok (.tableswitch dflt lo hi offs, len)) (h1 : x < lo ∨ hi < x) (ht : (pc : Int) + dflt = (tgt : Int)) (k : E d M tgt lv st h Q) : E d M pc lv (vi x :: st) h Q := by
  intro w1 w2 w3 p l e R s m args below meth c H locs cells slots ls G A Z C K Rr D L hret
  have hx : rg x := w3 (vi x) List.mem_cons_self
  exact lv_tableOut C.1 C.2.1 hd (by rw [o32 hx]; exact h1) ht (k w1 w2 (fun v hv => w3 v (List.mem_cons_of_mem _ hv)) p l e R s m args below meth c H locs cells slots ls G A Z C K Rr D L hret)
theorem E_dup {v : AV} (hd : decode M.2.1 pc = .ok (.dup, 1)) (hv : cat v = 1) (k : E d M (pc + 1) lv (v :: v :: st) h Q) : E d M pc lv (v :: st) h Q := by
  intro w1 w2 w3 p l e R s m args below meth c H locs cells slots ls G A Z C K Rr D L hret
  exact lv_dup C.1 C.2.1 hd (by rw [cat_rv]; exact hv) (k w1 w2 (wst (w3 v List.mem_cons_self) w3) p l e R s m args below meth c H locs cells slots ls G A Z C K Rr D L hret)
theorem E_pop {v : AV} (hd : decode M.2.1 pc = .ok (.pop, 1)) (hv : cat v = 1) (k : E d M (pc + 1) lv st h Q) : E d M pc lv (v :: st) h Q := by
  intro w1 w2 w3 p l e R s m args below meth c H locs cells slots ls G A Z C K Rr D L hret
  exact lv_pop C.1 C.2.1 hd (by rw [cat_rv]; exact hv) (k w1 w2 (fun v hv => w3 v (List.mem_cons_of_mem _ hv)) p l e R s m args below meth c H locs cells slots ls G A Z C K Rr D L hret)
theorem E_dup2 {v u : AV} (hd : decode M.2.1 pc = .ok (.dup2, 1)) (hv : cat v = 1) (hu : cat u = 1) (k : E d M (pc + 1) lv (v :: u :: v :: u :: st) h Q) : E d M pc lv (v :: u :: st) h Q := by
  intro w1 w2 w3 p l e R s m args below meth c H locs cells slots ls G A Z C K Rr D L hret
  exact lv_dup2_11 C.1 C.2.1 hd (by rw [cat_rv]; exact hv) (by rw [cat_rv]; exact hu) (k w1 w2 (wst (w3 v List.mem_cons_self) (wst (w3 u (List.mem_cons_of_mem _ List.mem_cons_self)) w3)) p l e R s m args below meth c H locs cells slots ls G A Z C K Rr D L hret)
end EL
