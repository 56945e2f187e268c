/-! the relation between the class's cells and the reference's -/
abbrev NetT : Type := Nat × List (Nat × Nat)
def okN (N : NetT) : Prop := 2 ≤ N.1 ∧ N.1 ≤ 8 ∧ N.2.length ≤ 40 ∧ ∀ c ∈ N.2, c.1 < N.1 ∧ c.2 < N.1 ∧ c.1 ≠ c.2
def Row (h : Hp) (a b o : Int) (cs : List (Nat × Nat)) : Prop := ∀ (p : Nat) (hp : p < cs.length), h a (o + p) = ((cs[p]).1 : Int) ∧ h b (o + p) = ((cs[p]).2 : Int)
def CNt (h : Hp) (a : Int) (N : NetT) : Prop := h a 0 = N.1 ∧ h a 1 = N.2.length ∧ Row h (a + 1) (a + 2) 0 N.2
def MNt (h : Hp) (k : Int) (N : NetT) : Prop := h 104 k = N.1 ∧ h 105 k = N.2.length ∧ Row h 106 107 (40 * k) N.2
def KNt (h : Hp) (r k : Int) (N : NetT) : Prop := h 112 (328 * r + 2 * k) = N.1 ∧ h 112 (328 * r + 2 * k + 1) = N.2.length ∧ ∀ (p : Nat) (hp : p < N.2.length), h 112 (328 * r + 8 + 2 * (40 * k + p)) = ((N.2[p]).1 : Int) ∧ h 112 (328 * r + 8 + 2 * (40 * k + p) + 1) = ((N.2[p]).2 : Int)
def upN (nets : Nat → NetT) (k : Nat) (N : NetT) : Nat → NetT := fun j => if j = k then N else nets j
def back (nets : Nat → NetT) : List (Nat × NetT) → (Nat → NetT)
  | [] => nets
  | q :: r => back (upN nets q.1 q.2) r
def Nts (h : Hp) (nets : Nat → NetT) : Prop := ∀ k : Nat, k < 4 → okN (nets k) ∧ CNt h (4 * k) (nets k) ∧ MNt h k (nets k)
/-- the ring's slot of the t-th latest change -/
def slot (nx : Int) (t : Nat) : Int := (nx + 11 - t) % 12
def HiC (h : Hp) (hist : List (Nat × NetT)) : Prop := h 70 3 = hist.length ∧ hist.length ≤ 12 ∧ 0 ≤ h 70 2 ∧ h 70 2 < 12 ∧ ∀ (t : Nat) (ht : t < hist.length), (hist[t]).1 < 4 ∧ okN (hist[t]).2 ∧ h 72 (slot (h 70 2) t) = ((hist[t]).1 : Int) ∧ CNt h (20 + 4 * slot (h 70 2) t) (hist[t]).2
def HiM (h : Hp) (nets : Nat → NetT) (hist : List (Nat × NetT)) : Prop := h 103 11 = hist.length ∧ ∀ (t : Nat), t < hist.length → ∀ k : Nat, k < 4 → KNt h ((hist.length : Int) - 1 - t) k (back nets (hist.take (t + 1)) k)
def RNH (h : Hp) : Prop := ∃ (nets : Nat → NetT) (hist : List (Nat × NetT)), Nts h nets ∧ HiC h hist ∧ HiM h nets hist
def Txt (h : Hp) : Prop := h 103 9 = h 73 1 ∧ 0 ≤ h 73 1 ∧ h 73 1 ≤ 60 ∧ ∀ i, 0 ≤ i → i < h 73 1 → h 111 i = h 74 i ∧ 33 ≤ h 74 i ∧ h 74 i ≤ 126
def Key (h : Hp) : Prop := ∀ i, 0 ≤ i → i < 8 → h 108 i = h 75 i ∧ 0 ≤ h 75 i ∧ h 75 i ≤ 99
def Tri (h : Hp) : Prop := (h 76 0 = 0 ∧ h 103 7 = 0) ∨ (h 76 0 = 1 ∧ h 103 7 = h 76 1 ∧ 2 ≤ h 76 1 ∧ h 76 1 ≤ 8 ∧ ∀ i, 0 ≤ i → i < h 76 1 → h 109 i = h 77 i ∧ h 110 i = h 78 i)
def okB (k a b : Int) : Prop := k = -1 ∨ k = 0 ∨ ((k = 1 ∨ k = 2) ∧ 0 ≤ a ∧ a < 8 ∧ 0 ≤ b ∧ b < 8 ∧ a ≠ b) ∨ (k = 3 ∧ 0 ≤ a ∧ a ≤ 1) ∨ ((k = 4 ∨ k = 5) ∧ 0 ≤ a ∧ a ≤ 1 ∧ 0 ≤ b ∧ b ≤ 9)
def Shl (h : Hp) : Prop := ∀ s, 0 ≤ s → s < 3 → h 113 s = h (80 + s) 0 ∧ h 114 s = h (80 + s) 1 ∧ h 115 s = h (80 + s) 2 ∧ okB (h (80 + s) 0) (h (80 + s) 1) (h (80 + s) 2)
def Rl (h : Hp) : Prop := RNH h ∧ Txt h ∧ Key h ∧ Tri h ∧ Shl h
/-! what each piece reads -/
def aN (a i : Int) : Prop := (0 ≤ a ∧ a ≤ 15) ∨ (20 ≤ a ∧ a ≤ 67) ∨ a = 70 ∨ a = 72 ∨ (104 ≤ a ∧ a ≤ 107) ∨ a = 112 ∨ (a = 103 ∧ i = 11)
def aT (a i : Int) : Prop := a = 73 ∨ a = 74 ∨ a = 111 ∨ (a = 103 ∧ i = 9)
def aK (a _i : Int) : Prop := a = 75 ∨ a = 108
def aR (a i : Int) : Prop := a = 76 ∨ a = 77 ∨ a = 78 ∨ a = 109 ∨ a = 110 ∨ (a = 103 ∧ i = 7)
def aS (a _i : Int) : Prop := (80 ≤ a ∧ a ≤ 82) ∨ (113 ≤ a ∧ a ≤ 115)
def Ag (P : Int → Int → Prop) (h h' : Hp) : Prop := ∀ a i, P a i → h' a i = h a i
theorem CNt_c {h h' : Hp} {a : Int} {N : NetT} (e : ∀ x y, a ≤ x → x ≤ a + 2 → h' x y = h x y) (H : CNt h a N) : CNt h' a N := by
  obtain ⟨h1, h2, h3⟩ := H
  refine ⟨by rw [e _ _ (by omega) (by omega)]; exact h1, by rw [e _ _ (by omega) (by omega)]; exact h2, fun p hp => ?_⟩
  rw [e _ _ (by omega) (by omega), e _ _ (by omega) (by omega)]
  exact h3 p hp
theorem MNt_c {h h' : Hp} {k : Int} {N : NetT} (e : ∀ x y, 104 ≤ x → x ≤ 107 → h' x y = h x y) (H : MNt h k N) : MNt h' k N := by
  obtain ⟨h1, h2, h3⟩ := H
  refine ⟨by rw [e _ _ (by omega) (by omega)]; exact h1, by rw [e _ _ (by omega) (by omega)]; exact h2, fun p hp => ?_⟩
  rw [e _ _ (by omega) (by omega), e _ _ (by omega) (by omega)]
  exact h3 p hp
theorem KNt_c {h h' : Hp} {r k : Int} {N : NetT} (e : ∀ y, h' 112 y = h 112 y) (H : KNt h r k N) : KNt h' r k N := by
  obtain ⟨h1, h2, h3⟩ := H
  refine ⟨by rw [e]; exact h1, by rw [e]; exact h2, fun p hp => ?_⟩
  rw [e, e]
  exact h3 p hp
theorem Nts_c {h h' : Hp} {nets : Nat → NetT} (e : Ag aN h h') (H : Nts h nets) : Nts h' nets := by
  intro k hk
  obtain ⟨h1, h2, h3⟩ := H k hk
  exact ⟨h1, CNt_c (fun x y q1 q2 => e x y (Or.inl (by omega))) h2, MNt_c (fun x y q1 q2 => e x y (Or.inr (Or.inr (Or.inr (Or.inr (Or.inl (by omega))))))) h3⟩
theorem slot_r (nx : Int) (t : Nat) : 0 ≤ slot nx t ∧ slot nx t < 12 := by unfold slot; omega
theorem HiC_c {h h' : Hp} {hist : List (Nat × NetT)} (e : Ag aN h h') (H : HiC h hist) : HiC h' hist := by
  obtain ⟨h1, h2, h3, h4, h5⟩ := H
  have e70 : ∀ i, h' 70 i = h 70 i := fun i => e 70 i (by unfold aN; omega)
  refine ⟨by rw [e70]; exact h1, h2, by rw [e70]; exact h3, by rw [e70]; exact h4, fun t ht => ?_⟩
  obtain ⟨q1, q2, q3, q4⟩ := h5 t ht
  rw [e70]
  have hs := slot_r (h 70 2) t
  exact ⟨q1, q2, by rw [e 72 _ (by unfold aN; omega)]; exact q3, CNt_c (fun x y r1 r2 => e x y (by unfold aN; omega)) q4⟩
theorem HiM_c {h h' : Hp} {nets : Nat → NetT} {hist : List (Nat × NetT)} (e : Ag aN h h') (H : HiM h nets hist) : HiM h' nets hist := by
  obtain ⟨h1, h2⟩ := H
  refine ⟨by rw [e 103 11 (by unfold aN; omega)]; exact h1, fun t ht k hk => ?_⟩
  exact KNt_c (fun y => e 112 y (by unfold aN; omega)) (h2 t ht k hk)
theorem RNH_c {h h' : Hp} (e : Ag aN h h') (H : RNH h) : RNH h' := by
  obtain ⟨nets, hist, h1, h2, h3⟩ := H
  exact ⟨nets, hist, Nts_c e h1, HiC_c e h2, HiM_c e h3⟩
theorem Txt_c {h h' : Hp} (e : Ag aT h h') (H : Txt h) : Txt h' := by
  obtain ⟨h1, h2, h3, h4⟩ := H
  have e1 : h' 73 1 = h 73 1 := e 73 1 (by unfold aT; omega)
  refine ⟨by rw [e1, e 103 9 (by unfold aT; omega)]; exact h1, by rw [e1]; exact h2, by rw [e1]; exact h3, fun i q1 q2 => ?_⟩
  rw [e 111 i (by unfold aT; omega), e 74 i (by unfold aT; omega)]
  exact h4 i q1 (by rw [← e1]; exact q2)
theorem Key_c {h h' : Hp} (e : Ag aK h h') (H : Key h) : Key h' := by
  intro i q1 q2
  rw [e 108 i (by unfold aK; omega), e 75 i (by unfold aK; omega)]
  exact H i q1 q2
theorem Tri_c {h h' : Hp} (e : Ag aR h h') (H : Tri h) : Tri h' := by
  have e1 : ∀ i, h' 76 i = h 76 i := fun i => e 76 i (by unfold aR; omega)
  have e2 : h' 103 7 = h 103 7 := e 103 7 (by unfold aR; omega)
  unfold Tri
  rw [e1, e1, e2]
  rcases H with H | ⟨h1, h2, h3, h4, h5⟩
  · exact Or.inl H
  · refine Or.inr ⟨h1, h2, h3, h4, fun i q1 q2 => ?_⟩
    rw [e 109 i (by unfold aR; omega), e 110 i (by unfold aR; omega), e 77 i (by unfold aR; omega), e 78 i (by unfold aR; omega)]
    exact h5 i q1 q2
theorem Shl_c {h h' : Hp} (e : Ag aS h h') (H : Shl h) : Shl h' := by
  intro s q1 q2
  have e1 : ∀ i, h' (80 + s) i = h (80 + s) i := fun i => e _ i (by unfold aS; omega)
  rw [e1, e1, e1, e 113 s (by unfold aS; omega), e 114 s (by unfold aS; omega), e 115 s (by unfold aS; omega)]
  exact H s q1 q2
/-- an op of both: the same answer, and the relation again -/
def OpI (l1 : Nat) (M1 : MD) (l2 : Nat) (M2 : MD) (as : List AV) (h : Hp) : Prop := CI l1 M1 (vr 68 :: as) h (fun r1 h1 => CI l2 M2 (vr 103 :: as) h1 (fun r2 h2 => r1 = r2 ∧ Rl h2))
def OpL (l1 : Nat) (M1 : MD) (l2 : Nat) (M2 : MD) (as : List AV) (h : Hp) : Prop := CL l1 M1 (vr 68 :: as) h (fun r1 h1 => CL l2 M2 (vr 103 :: as) h1 (fun r2 h2 => r1 = r2 ∧ Rl h2))
theorem up_no {h : Hp} {a i v x y : Int} (hn : ¬ (x = a ∧ y = i)) : up h a i v x y = h x y := by
  unfold up
  rw [if_neg hn]
/-! text -/
theorem op_append {h : Hp} {c : Int} (hR : Rl h) : OpI 1 mX10_append 1 mX11_append [vi c] h := by
  obtain ⟨h1, h2, h3, h4, h5⟩ := id hR
  obtain ⟨t1, t2, t3, t4⟩ := id h2
  refine sX10_append (sX8_put ⟨fun c1 => ?_, fun c1 => ⟨fun c2 => ⟨fun c3 => ⟨by omega, ?_⟩, fun c3 => ?_⟩, fun c2 => ?_⟩⟩)
  · refine sX11_append ⟨fun d1 => absurd d1 (by omega), fun _ => ⟨rfl, hR⟩⟩
  · have e1 : up (up h 74 (h 73 1) c) 73 1 (h 73 1 + 1) 103 9 = h 73 1 := by rw [up_no (by omega), up_no (by omega)]; exact t1
    refine sX11_append ⟨fun d1 => ⟨fun d2 => ⟨by omega, ?_⟩, fun d2 => absurd d2 (by omega)⟩, fun d1 => absurd d1 (by omega)⟩
    rw [e1]
    refine ⟨rfl, RNH_c (fun a i q => ?_) h1, ⟨?_, ?_, ?_, fun i q1 q2 => ?_⟩, Key_c (fun a i q => ?_) h3, Tri_c (fun a i q => ?_) h4, Shl_c (fun a i q => ?_) h5⟩
    · unfold aN at q; rw [up_no (by omega), up_no (by omega), up_no (by omega), up_no (by omega)]
    · grind [up]
    · grind [up]
    · grind [up]
    · grind [up]
    · unfold aK at q; rw [up_no (by omega), up_no (by omega), up_no (by omega), up_no (by omega)]
    · unfold aR at q; rw [up_no (by omega), up_no (by omega), up_no (by omega), up_no (by omega)]
    · unfold aS at q; rw [up_no (by omega), up_no (by omega), up_no (by omega), up_no (by omega)]
  · refine sX11_append ⟨fun d1 => ⟨fun d2 => absurd d2 (by omega), fun d2 => ⟨rfl, hR⟩⟩, fun d1 => absurd d1 (by omega)⟩
  · refine sX11_append ⟨fun d1 => absurd d1 (by omega), fun _ => ⟨rfl, hR⟩⟩
