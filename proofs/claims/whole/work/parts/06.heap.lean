theorem up_nat {h : Hp} {a i v : Int} (h0 : 0 ≤ i) (j : Nat) : up h a i v a (j : Int) = if j = i.toNat then v else h a j := by
  unfold up
  by_cases hj : j = i.toNat
  · rw [if_pos hj, if_pos ⟨rfl, by omega⟩]
  · rw [if_neg hj, if_neg (fun q => hj (by omega))]
theorem ne_of_kind {a : Int} {t n x t' n' : Nat} (ha : isC a t n) (hx : shL[x]? = some (t', n')) (ht : t ≠ t') : a ≠ x := by
  intro q
  subst q
  have h2 := ha.2
  rw [Int.toNat_natCast, hx] at h2
  cases h2
  exact ht rfl
theorem sh84 : shL[84]? = some (3, 32) := by decide +kernel
theorem sh99 : shL[99]? = some (3, 256) := by decide +kernel
theorem sh103 : shL[103]? = some (0, 11) := by decide +kernel
theorem lgS_arr {a j : Int} {t n : Nat} (ha : isC a t n) (h3 : t ≠ 3) (h0 : t ≠ 0) : ¬ lgS a j := by
  intro q
  rcases q with q | q | q
  · exact ne_of_kind ha sh84 h3 q
  · exact ne_of_kind ha sh99 h3 q
  · exact ne_of_kind ha sh103 h0 q.1
theorem lgS_fld {a : Int} {ci j t : Nat} (ha : isC a 0 ci) (hf : (ftL.getD ci [])[j]? = some t) (ht : t ≠ 1) : ¬ lgS a j := by
  intro q
  rcases q with q | q | q
  · exact ne_of_kind ha sh84 (by decide) q
  · exact ne_of_kind ha sh99 (by decide) q
  · obtain ⟨q1, q2⟩ := q
    have h2 := ha.2
    rw [q1, show ((103 : Int)).toNat = 103 from rfl, sh103] at h2
    cases h2
    have hj : j = 28 := by omega
    subst hj
    have e1 : (ftL.getD 11 [])[28]? = some 1 := by decide +kernel
    rw [e1] at hf
    cases hf
    exact ht rfl
theorem lgS_long {a j : Int} {n : Nat} (ha : isC a 3 n) : lgS a j := by
  have h1 : ∀ k : Nat, k < 127 → ∀ n : Nat, shL[k]? = some (3, n) → k = 84 ∨ k = 99 := by
    have h2 : ∀ k : Nat, k < 127 → (shL[k]?.map (·.1) = some 3 → k = 84 ∨ k = 99) := by decide +kernel
    intro k hk n hn
    exact h2 k hk (by rw [hn]; rfl)
  rcases h1 _ ha.lt n ha.2 with q | q
  · exact Or.inl (by have := ha.nn; omega)
  · exact Or.inr (Or.inl (by have := ha.nn; omega))
theorem wfh_up {h : Hp} {a i v : Int} (hw : wfh h) (h1 : lgS a i → rgL v) (h2 : ¬ lgS a i → rg v) : wfh (up h a i v) := by
  intro x y
  by_cases hq : x = a ∧ y = i
  · obtain ⟨rfl, rfl⟩ := hq
    rw [up_eq]
    exact ⟨h1, h2⟩
  · have e1 : up h a i v x y = h x y := by unfold up; rw [if_neg hq]
    rw [e1]
    exact hw x y
theorem Wd_up {G : GG} {h h' : Hp} {s : State} {A : Nat → Prop} {H1 : Heap} {locs1 : List Loc} {a : Int} {e : va_E} (h0 : 0 ≤ a) (hl : a.toNat < 127) (he : cellE G h' a.toNat = e) (ho : ∀ x : Int, x ≠ a → ∀ y, h' x y = h x y) (hP : va_P G.1 vwCl ((ws G h).set a.toNat (G.2.1 a.toNat, e)) H1) (hD : va_D A ((ws G h).set a.toNat (G.2.1 a.toNat, e))) (hS : va_S A s.heap H1 locs1) : Wd G h' s A H1 locs1 := by
  have e1 := ws_set G h h' hl he (fun x hx y => ho x (by omega) y)
  rw [e1] at hP hD
  exact ⟨hP, hD, hS⟩
theorem cell_arr {G : GG} {h : Hp} {a : Int} {n : Nat} (ha : isC a 1 n) : (ws G h)[a.toNat]? = some (G.2.1 a.toNat, .inl (G.2.2 0, n, .inl (fun j : Nat => Int32.ofInt (h a j)))) := by
  rw [ws_at G h ha.lt]
  unfold cellE
  rw [ha.2, ha.nn]
  rfl
theorem cell_bool {G : GG} {h : Hp} {a : Int} {n : Nat} (ha : isC a 2 n) : (ws G h)[a.toNat]? = some (G.2.1 a.toNat, .inl (G.2.2 1, n, .inl (fun j : Nat => Int32.ofInt (h a j)))) := by
  rw [ws_at G h ha.lt]
  unfold cellE
  rw [ha.2, ha.nn]
  rfl
theorem cell_long {G : GG} {h : Hp} {a : Int} {n : Nat} (ha : isC a 3 n) : (ws G h)[a.toNat]? = some (G.2.1 a.toNat, .inl (G.2.2 2, n, .inr (.inl (fun j : Nat => Int64.ofInt (h a j))))) := by
  rw [ws_at G h ha.lt]
  unfold cellE
  rw [ha.2, ha.nn]
  rfl
theorem cell_net {G : GG} {h : Hp} {a : Int} {n : Nat} (ha : isC a 4 n) : (ws G h)[a.toNat]? = some (G.2.1 a.toNat, .inl (G.2.2 3, n, .inr (.inr (.inr (.inr (fun j : Nat => some (G.2.1 (rf a.toNat j)))))))) := by
  rw [ws_at G h ha.lt]
  unfold cellE
  rw [ha.2]
  rfl
theorem cell_shf {G : GG} {h : Hp} {a : Int} {n : Nat} (ha : isC a 5 n) : (ws G h)[a.toNat]? = some (G.2.1 a.toNat, .inl (G.2.2 4, n, .inr (.inr (.inr (.inr (fun j : Nat => some (G.2.1 (rf a.toNat j)))))))) := by
  rw [ws_at G h ha.lt]
  unfold cellE
  rw [ha.2]
  rfl
theorem cell_obj {G : GG} {h : Hp} {a : Int} {ci : Nat} (ha : isC a 0 ci) : (ws G h)[a.toNat]? = some (G.2.1 a.toNat, .inr (ci, fsOf G.2.1 h a.toNat ci)) := by
  rw [ws_at G h ha.lt]
  unfold cellE
  rw [ha.2]
  rfl
theorem fs_at {ad : Nat → Nat} {h : Hp} {k ci j t : Nat} (hf : (ftL.getD ci [])[j]? = some t) : (fsOf ad h k ci)[j]? = some (slotv ad h k t j) := by
  unfold fsOf
  rw [List.getElem?_mapIdx, hf]
  rfl
theorem lgS_fldL {a : Int} {ci j : Nat} (ha : isC a 0 ci) (hf : (ftL.getD ci [])[j]? = some 1) : lgS a j := by
  have h1 : ∀ k : Nat, k < 12 → ∀ j : Nat, j < 34 → ((ftL.getD k [])[j]? = some 1 → k = 11 ∧ j = 28) := by decide +kernel
  have h2 : ∀ k : Nat, k < 127 → (shL[k]? = some (0, 11) → k = 103) := by decide +kernel
  have h4 : ci < 12 := by
    rcases Nat.lt_or_ge ci 12 with q | q
    · exact q
    · have e1 : ftL.getD ci [] = [] := by
        rw [List.getD_eq_getElem?_getD, List.getElem?_eq_none (by simpa [ftL] using q)]
        rfl
      rw [e1] at hf
      cases hf
  have h3 : j < 34 := by
    have hj := (List.getElem?_eq_some_iff.mp hf).1
    have h5 : ∀ k : Nat, k < 12 → (ftL.getD k []).length ≤ 34 := by decide +kernel
    have := h5 ci h4
    omega
  obtain ⟨e1, e2⟩ := h1 ci h4 j h3 hf
  subst e1; subst e2
  have e3 := h2 _ ha.lt ha.2
  exact Or.inr (Or.inr ⟨by have := ha.nn; omega, rfl⟩)
theorem cell_put {G : GG} {h : Hp} {a v : Int} {ci j t : Nat} {x : Value} (ha : isC a 0 ci) (hf : (ftL.getD ci [])[j]? = some t) (hx : slotv G.2.1 (up h a j v) a.toNat t j = x) : cellE G (up h a j v) a.toNat = .inr (ci, (fsOf G.2.1 h a.toNat ci).set j x) := by
  unfold cellE
  rw [ha.2]
  simp only []
  congr 2
  refine List.ext_getElem? fun n => ?_
  rw [List.getElem?_set]
  by_cases hn : j = n
  · subst hn
    rw [if_pos rfl, if_pos (List.getElem?_eq_some_iff.mp (fs_at (ad := G.2.1) (h := h) (k := a.toNat) hf)).1, fs_at hf, hx]
  · rw [if_neg hn]
    unfold fsOf
    rw [List.getElem?_mapIdx, List.getElem?_mapIdx]
    congr 1
    funext t'
    unfold slotv
    rw [up_ne2 (by omega)]
section EH
variable {d : Nat} {M : MD} {pc : Nat} {lv : List (Nat × AV)} {st : List AV} {h : Hp} {Q : Option AV → Hp → Prop}
theorem E_iaload {a i : Int} {n : Nat} (hd : decode M.2.1 pc = .ok (.iaload, 1)) (ha : isC a 1 n) (h0 : 0 ≤ i) (hi : i < n) (k : E d M (pc + 1) lv (vi (h a i) :: st) h Q) : E d M pc lv (vi i :: vr a :: st) h Q := by
  intro w1 w2 w3 p l e R s m args below meth c H locs cells slots ls G A Z C K Rr D L hret
  have hr : rg i := w3 (vi i) List.mem_cons_self
  refine va_iald C.1 C.2.1 K.1 D.1 a.toNat 0 (cell_arr ha) rfl (o32_in h0 hi hr) hd ?_
  have e1 : ((i.toNat : Nat) : Int) = i := Int.toNat_of_nonneg h0
  rw [o32_clamp hr, e1]
  exact k w1 w2 (wst ((w1 a i).2 (lgS_arr ha (by decide) (by decide))) (fun v hv => w3 v (List.mem_cons_of_mem _ (List.mem_cons_of_mem _ hv)))) p l e R s m args below meth c H locs cells slots ls G A Z C K Rr D L hret
theorem E_baload {a i : Int} {n : Nat} (hd : decode M.2.1 pc = .ok (.baload, 1)) (ha : isC a 2 n) (h0 : 0 ≤ i) (hi : i < n) (k : E d M (pc + 1) lv (vi (h a i) :: st) h Q) : E d M pc lv (vi i :: vr a :: st) h Q := by
  intro w1 w2 w3 p l e R s m args below meth c H locs cells slots ls G A Z C K Rr D L hret
  have hr : rg i := w3 (vi i) List.mem_cons_self
  refine va_zald C.1 C.2.1 K.1 D.1 a.toNat 1 (cell_bool ha) rfl (o32_in h0 hi hr) hd ?_
  have e1 : ((i.toNat : Nat) : Int) = i := Int.toNat_of_nonneg h0
  rw [o32_clamp hr, e1]
  exact k w1 w2 (wst ((w1 a i).2 (lgS_arr ha (by decide) (by decide))) (fun v hv => w3 v (List.mem_cons_of_mem _ (List.mem_cons_of_mem _ hv)))) p l e R s m args below meth c H locs cells slots ls G A Z C K Rr D L hret
theorem E_laload {a i : Int} {n : Nat} (hd : decode M.2.1 pc = .ok (.laload, 1)) (ha : isC a 3 n) (h0 : 0 ≤ i) (hi : i < n) (k : E d M (pc + 1) lv (vl (h a i) :: st) h Q) : E d M pc lv (vi i :: vr a :: st) h Q := by
  intro w1 w2 w3 p l e R s m args below meth c H locs cells slots ls G A Z C K Rr D L hret
  have hr : rg i := w3 (vi i) List.mem_cons_self
  refine va_lald C.1 C.2.1 K.1 D.1 a.toNat 2 (cell_long ha) rfl (o32_in h0 hi hr) hd ?_
  have e1 : ((i.toNat : Nat) : Int) = i := Int.toNat_of_nonneg h0
  rw [o32_clamp hr, e1]
  exact k w1 w2 (wst ((w1 a i).1 (lgS_long ha)) (fun v hv => w3 v (List.mem_cons_of_mem _ (List.mem_cons_of_mem _ hv)))) p l e R s m args below meth c H locs cells slots ls G A Z C K Rr D L hret
def rfI (a j : Int) : Int := ((rf a.toNat j.toNat : Nat) : Int)
theorem E_aaloadN {a i b : Int} {n : Nat} (hd : decode M.2.1 pc = .ok (.aaload, 1)) (ha : isC a 4 n) (h0 : 0 ≤ i) (hi : i < n) (hb : rfI a i = b) (k : E d M (pc + 1) lv (vr b :: st) h Q) : E d M pc lv (vi i :: vr a :: st) h Q := by
  intro w1 w2 w3 p l e R s m args below meth c H locs cells slots ls G A Z C K Rr D L hret
  have hr : rg i := w3 (vi i) List.mem_cons_self
  have k := k w1 w2 (wst trivial (fun v hv => w3 v (List.mem_cons_of_mem _ (List.mem_cons_of_mem _ hv)))) p l e R s m args below meth c H locs cells slots ls G A Z C K Rr D L hret
  refine va_aldq C.1 C.2.1 K.1 D.1 a.toNat 3 (cell_net ha) rfl (o32_in h0 hi hr) hd ?_
  rw [o32_clamp hr]
  subst hb
  exact k
theorem E_aaloadS {a i b : Int} {n : Nat} (hd : decode M.2.1 pc = .ok (.aaload, 1)) (ha : isC a 5 n) (h0 : 0 ≤ i) (hi : i < n) (hb : rfI a i = b) (k : E d M (pc + 1) lv (vr b :: st) h Q) : E d M pc lv (vi i :: vr a :: st) h Q := by
  intro w1 w2 w3 p l e R s m args below meth c H locs cells slots ls G A Z C K Rr D L hret
  have hr : rg i := w3 (vi i) List.mem_cons_self
  have k := k w1 w2 (wst trivial (fun v hv => w3 v (List.mem_cons_of_mem _ (List.mem_cons_of_mem _ hv)))) p l e R s m args below meth c H locs cells slots ls G A Z C K Rr D L hret
  refine va_aldq C.1 C.2.1 K.1 D.1 a.toNat 4 (cell_shf ha) rfl (o32_in h0 hi hr) hd ?_
  rw [o32_clamp hr]
  subst hb
  exact k
theorem E_iastore {a i v : Int} {n : Nat} (hd : decode M.2.1 pc = .ok (.iastore, 1)) (ha : isC a 1 n) (h0 : 0 ≤ i) (hi : i < n) (k : E d M (pc + 1) lv st (up h a i v) Q) : E d M pc lv (vi v :: vi i :: vr a :: st) h Q := by
  intro w1 w2 w3 p l e R s m args below meth c H locs cells slots ls G A Z C K Rr D L hret
  have hr : rg i := w3 (vi i) (List.mem_cons_of_mem _ List.mem_cons_self)
  have hrv : rg v := w3 (vi v) List.mem_cons_self
  refine va_iast C.1 C.2.1 K.1 D.1 D.2.1 D.2.2 a.toNat 0 (cell_arr ha) rfl (o32_in h0 hi hr) hd (fun H1 locs1 hP hD hS => ?_)
  refine k (wfh_up w1 (fun q => absurd q (lgS_arr ha (by decide) (by decide))) (fun _ => hrv)) w2 (fun v hv => w3 v (List.mem_cons_of_mem _ (List.mem_cons_of_mem _ (List.mem_cons_of_mem _ hv)))) p l e R s m args below meth c H1 locs1 cells slots ls G A Z C K Rr (Wd_up ha.1 ha.lt ?_ (fun x hx y => up_ne hx) hP hD hS) L hret
  unfold cellE
  rw [ha.2, ha.nn, o32_clamp hr]
  show (Sum.inl (G.2.2 0, n, Sum.inl (fun j : Nat => Int32.ofInt (up h a i v a j))) : va_E) = _
  congr 4
  funext j
  rw [up_nat h0]
  unfold upd
  split <;> rfl
theorem E_bastore {a i v : Int} {n : Nat} (hd : decode M.2.1 pc = .ok (.bastore, 1)) (ha : isC a 2 n) (h0 : 0 ≤ i) (hi : i < n) (hv : v = 0 ∨ v = 1) (k : E d M (pc + 1) lv st (up h a i v) Q) : E d M pc lv (vi v :: vi i :: vr a :: st) h Q := by
  intro w1 w2 w3 p l e R s m args below meth c H locs cells slots ls G A Z C K Rr D L hret
  have hr : rg i := w3 (vi i) (List.mem_cons_of_mem _ List.mem_cons_self)
  have hrv : rg v := w3 (vi v) List.mem_cons_self
  have hnar : vp_nar .boolean (Int32.ofInt v) = Int32.ofInt v := by rcases hv with rfl | rfl <;> decide
  refine va_zast C.1 C.2.1 K.1 D.1 D.2.1 D.2.2 a.toNat 1 (cell_bool ha) rfl (o32_in h0 hi hr) hd (fun H1 locs1 hP hD hS => ?_)
  refine k (wfh_up w1 (fun q => absurd q (lgS_arr ha (by decide) (by decide))) (fun _ => hrv)) w2 (fun v hv => w3 v (List.mem_cons_of_mem _ (List.mem_cons_of_mem _ (List.mem_cons_of_mem _ hv)))) p l e R s m args below meth c H1 locs1 cells slots ls G A Z C K Rr (Wd_up ha.1 ha.lt ?_ (fun x hx y => up_ne hx) hP hD hS) L hret
  unfold cellE
  rw [ha.2, ha.nn, o32_clamp hr, hnar]
  show (Sum.inl (G.2.2 1, n, Sum.inl (fun j : Nat => Int32.ofInt (up h a i v a j))) : va_E) = _
  congr 4
  funext j
  rw [up_nat h0]
  unfold upd
  split <;> rfl
theorem E_lastore {a i v : Int} {n : Nat} (hd : decode M.2.1 pc = .ok (.lastore, 1)) (ha : isC a 3 n) (h0 : 0 ≤ i) (hi : i < n) (k : E d M (pc + 1) lv st (up h a i v) Q) : E d M pc lv (vl v :: vi i :: vr a :: st) h Q := by
  intro w1 w2 w3 p l e R s m args below meth c H locs cells slots ls G A Z C K Rr D L hret
  have hr : rg i := w3 (vi i) (List.mem_cons_of_mem _ List.mem_cons_self)
  have hrv : rgL v := w3 (vl v) List.mem_cons_self
  refine va_last C.1 C.2.1 K.1 D.1 D.2.1 D.2.2 a.toNat 2 (cell_long ha) rfl (o32_in h0 hi hr) hd (fun H1 locs1 hP hD hS => ?_)
  refine k (wfh_up w1 (fun _ => hrv) (fun q => absurd (lgS_long ha) q)) w2 (fun v hv => w3 v (List.mem_cons_of_mem _ (List.mem_cons_of_mem _ (List.mem_cons_of_mem _ hv)))) p l e R s m args below meth c H1 locs1 cells slots ls G A Z C K Rr (Wd_up ha.1 ha.lt ?_ (fun x hx y => up_ne hx) hP hD hS) L hret
  unfold cellE
  rw [ha.2, ha.nn, o32_clamp hr]
  show (Sum.inl (G.2.2 2, n, Sum.inr (Sum.inl (fun j : Nat => Int64.ofInt (up h a i v a j)))) : va_E) = _
  congr 5
  funext j
  rw [up_nat h0]
  unfold vp_updL
  split <;> rfl
theorem E_arraylength {a : Int} {n : Nat} (hd : decode M.2.1 pc = .ok (.arraylength, 1)) (ha : isC a 1 n) (hn : n < 2147483648) (k : E d M (pc + 1) lv (vi n :: st) h Q) : E d M pc lv (vr a :: st) h Q := by
  intro w1 w2 w3 p l e R s m args below meth c H locs cells slots ls G A Z C K Rr D L hret
  refine va_alen (v := Int32.ofInt n) C.1 C.2.1 K.1 D.1 a.toNat 0 (cell_arr ha) (ty := .int) rfl rfl hd ?_
  exact k w1 w2 (wst (show rg n from ⟨by omega, by omega⟩) (fun v hv => w3 v (List.mem_cons_of_mem _ hv))) p l e R s m args below meth c H locs cells slots ls G A Z C K Rr D L hret
theorem E_arraylengthN {a : Int} {n : Nat} (hd : decode M.2.1 pc = .ok (.arraylength, 1)) (ha : isC a 4 n) (hn : n < 2147483648) (k : E d M (pc + 1) lv (vi n :: st) h Q) : E d M pc lv (vr a :: st) h Q := by
  intro w1 w2 w3 p l e R s m args below meth c H locs cells slots ls G A Z C K Rr D L hret
  refine va_alen (v := Int32.ofInt n) C.1 C.2.1 K.1 D.1 a.toNat 3 (cell_net ha) (ty := .object "ComparatorNetworks$Network") rfl rfl hd ?_
  exact k w1 w2 (wst (show rg n from ⟨by omega, by omega⟩) (fun v hv => w3 v (List.mem_cons_of_mem _ hv))) p l e R s m args below meth c H locs cells slots ls G A Z C K Rr D L hret
theorem E_getI {a : Int} {ci j idx : Nat} (hd : decode M.2.1 pc = .ok (.getfield idx, 3)) (hf : FL M.1.cls idx ci j 0) (ha : isC a 0 ci) (k : E d M (pc + 3) lv (vi (h a (j : Nat)) :: st) h Q) : E d M pc lv (vr a :: st) h Q := by
  intro w1 w2 w3 p l e R s m args below meth c H locs cells slots ls G A Z C K Rr D L hret
  obtain ⟨C0, T, N, hc, hin, hj, hlk, hft⟩ := hf
  refine va_get (ci := ci) (v := slotv G.2.1 h a.toNat 0 j) (C := C0) (T := T) (N := N) C.1 C.2.1 C.2.2.2.2 hin C.2.2.2.1 K.1 D.1 a.toNat (cell_obj ha) hc j hj (C.2.2.2.2 _ hlk) (fun _ q => q) (fs_at hft) hd ?_
  have e1 : slotv G.2.1 h a.toNat 0 j = rv G.2.1 (vi (h a (j : Nat))) := by unfold slotv rv; simp only [ha.nn]
  rw [e1]
  exact k w1 w2 (wst ((w1 a j).2 (lgS_fld ha hft (by decide))) (fun v hv => w3 v (List.mem_cons_of_mem _ hv))) p l e R s m args below meth c H locs cells slots ls G A Z C K Rr D L hret
theorem E_getL {a : Int} {ci j idx : Nat} (hd : decode M.2.1 pc = .ok (.getfield idx, 3)) (hf : FL M.1.cls idx ci j 1) (ha : isC a 0 ci) (k : E d M (pc + 3) lv (vl (h a (j : Nat)) :: st) h Q) : E d M pc lv (vr a :: st) h Q := by
  intro w1 w2 w3 p l e R s m args below meth c H locs cells slots ls G A Z C K Rr D L hret
  obtain ⟨C0, T, N, hc, hin, hj, hlk, hft⟩ := hf
  refine va_get (ci := ci) (v := slotv G.2.1 h a.toNat 1 j) (C := C0) (T := T) (N := N) C.1 C.2.1 C.2.2.2.2 hin C.2.2.2.1 K.1 D.1 a.toNat (cell_obj ha) hc j hj (C.2.2.2.2 _ hlk) (fun _ q => q) (fs_at hft) hd ?_
  have e1 : slotv G.2.1 h a.toNat 1 j = rv G.2.1 (vl (h a (j : Nat))) := by unfold slotv rv; simp only [ha.nn]
  rw [e1]
  have hlg : lgS a j := lgS_fldL ha hft
  exact k w1 w2 (wst ((w1 a j).1 hlg) (fun v hv => w3 v (List.mem_cons_of_mem _ hv))) p l e R s m args below meth c H locs cells slots ls G A Z C K Rr D L hret
theorem E_getR {a b : Int} {ci j idx : Nat} (hd : decode M.2.1 pc = .ok (.getfield idx, 3)) (hf : FL M.1.cls idx ci j 2) (ha : isC a 0 ci) (hb : rfI a j = b) (k : E d M (pc + 3) lv (vr b :: st) h Q) : E d M pc lv (vr a :: st) h Q := by
  intro w1 w2 w3 p l e R s m args below meth c H locs cells slots ls G A Z C K Rr D L hret
  obtain ⟨C0, T, N, hc, hin, hj, hlk, hft⟩ := hf
  have k := k w1 w2 (wst trivial (fun v hv => w3 v (List.mem_cons_of_mem _ hv))) p l e R s m args below meth c H locs cells slots ls G A Z C K Rr D L hret
  refine va_get (ci := ci) (v := slotv G.2.1 h a.toNat 2 j) (C := C0) (T := T) (N := N) C.1 C.2.1 C.2.2.2.2 hin C.2.2.2.1 K.1 D.1 a.toNat (cell_obj ha) hc j hj (C.2.2.2.2 _ hlk) (fun _ q => q) (fs_at hft) hd ?_
  subst hb
  exact k
theorem E_putI {a v : Int} {ci j idx : Nat} (hd : decode M.2.1 pc = .ok (.putfield idx, 3)) (hf : FP M.1.cls idx ci j 0 .int) (ha : isC a 0 ci) (k : E d M (pc + 3) lv st (up h a j v) Q) : E d M pc lv (vi v :: vr a :: st) h Q := by
  intro w1 w2 w3 p l e R s m args below meth c H locs cells slots ls G A Z C K Rr D L hret
  have hrv : rg v := w3 (vi v) List.mem_cons_self
  obtain ⟨C0, T, N, ty0, hc, hin, hj, hlk, hft, hty, hnm, hfin, htj⟩ := hf
  have hln : j < (fsOf G.2.1 h a.toNat ci).length := (List.getElem?_eq_some_iff.mp (fs_at (ad := G.2.1) (h := h) (k := a.toNat) hft)).1
  refine va_put (ci := ci) (v := .int (Int32.ofInt v)) (ty := .int) (C := C0) (T := T) (N := N) C.1 C.2.1 C.2.2.2.2 hin ty0 hty hnm C.2.2.2.1 K.1 D.1 D.2.1 D.2.2 a.toNat (cell_obj ha) hc j hj (C.2.2.2.2 _ hlk) (fun _ q => q) hfin (by rw [hty j hj, htj]) rfl rfl hln hd (fun H1 locs1 hP hD hS => ?_)
  refine k (wfh_up w1 (fun q => absurd q (lgS_fld ha hft (by decide))) (fun _ => hrv)) w2 (fun v hv => w3 v (List.mem_cons_of_mem _ (List.mem_cons_of_mem _ hv))) p l e R s m args below meth c H1 locs1 cells slots ls G A Z C K Rr (Wd_up ha.1 ha.lt ?_ (fun x hx y => up_ne hx) hP hD hS) L hret
  exact cell_put ha hft (by unfold slotv; simp only [ha.nn, up_eq])
theorem E_putZ {a v : Int} {ci j idx : Nat} (hd : decode M.2.1 pc = .ok (.putfield idx, 3)) (hf : FP M.1.cls idx ci j 0 .boolean) (ha : isC a 0 ci) (hv : v = 0 ∨ v = 1) (k : E d M (pc + 3) lv st (up h a j v) Q) : E d M pc lv (vi v :: vr a :: st) h Q := by
  intro w1 w2 w3 p l e R s m args below meth c H locs cells slots ls G A Z C K Rr D L hret
  have hrv : rg v := w3 (vi v) List.mem_cons_self
  obtain ⟨C0, T, N, ty0, hc, hin, hj, hlk, hft, hty, hnm, hfin, htj⟩ := hf
  have hln : j < (fsOf G.2.1 h a.toNat ci).length := (List.getElem?_eq_some_iff.mp (fs_at (ad := G.2.1) (h := h) (k := a.toNat) hft)).1
  refine va_put (ci := ci) (v := .int (Int32.ofInt v)) (ty := .boolean) (C := C0) (T := T) (N := N) C.1 C.2.1 C.2.2.2.2 hin ty0 hty hnm C.2.2.2.1 K.1 D.1 D.2.1 D.2.2 a.toNat (cell_obj ha) hc j hj (C.2.2.2.2 _ hlk) (fun _ q => q) hfin (by rw [hty j hj, htj]) (by rcases hv with rfl | rfl <;> rfl) (by rcases hv with rfl | rfl <;> rfl) hln hd (fun H1 locs1 hP hD hS => ?_)
  refine k (wfh_up w1 (fun q => absurd q (lgS_fld ha hft (by decide))) (fun _ => hrv)) w2 (fun v hv => w3 v (List.mem_cons_of_mem _ (List.mem_cons_of_mem _ hv))) p l e R s m args below meth c H1 locs1 cells slots ls G A Z C K Rr (Wd_up ha.1 ha.lt ?_ (fun x hx y => up_ne hx) hP hD hS) L hret
  exact cell_put ha hft (by unfold slotv; simp only [ha.nn, up_eq])
theorem E_putL {a v : Int} {ci j idx : Nat} (hd : decode M.2.1 pc = .ok (.putfield idx, 3)) (hf : FP M.1.cls idx ci j 1 .long) (ha : isC a 0 ci) (k : E d M (pc + 3) lv st (up h a j v) Q) : E d M pc lv (vl v :: vr a :: st) h Q := by
  intro w1 w2 w3 p l e R s m args below meth c H locs cells slots ls G A Z C K Rr D L hret
  have hrv : rgL v := w3 (vl v) List.mem_cons_self
  obtain ⟨C0, T, N, ty0, hc, hin, hj, hlk, hft, hty, hnm, hfin, htj⟩ := hf
  have hln : j < (fsOf G.2.1 h a.toNat ci).length := (List.getElem?_eq_some_iff.mp (fs_at (ad := G.2.1) (h := h) (k := a.toNat) hft)).1
  refine va_put (ci := ci) (v := .long (Int64.ofInt v)) (ty := .long) (C := C0) (T := T) (N := N) C.1 C.2.1 C.2.2.2.2 hin ty0 hty hnm C.2.2.2.1 K.1 D.1 D.2.1 D.2.2 a.toNat (cell_obj ha) hc j hj (C.2.2.2.2 _ hlk) (fun _ q => q) hfin (by rw [hty j hj, htj]) rfl rfl hln hd (fun H1 locs1 hP hD hS => ?_)
  refine k (wfh_up w1 (fun _ => hrv) (fun q => absurd (lgS_fldL ha hft) q)) w2 (fun v hv => w3 v (List.mem_cons_of_mem _ (List.mem_cons_of_mem _ hv))) p l e R s m args below meth c H1 locs1 cells slots ls G A Z C K Rr (Wd_up ha.1 ha.lt ?_ (fun x hx y => up_ne hx) hP hD hS) L hret
  exact cell_put ha hft (by unfold slotv; simp only [ha.nn, up_eq])
end EH
