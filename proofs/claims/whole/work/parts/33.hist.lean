/-! remembering, on both sides -/
theorem CNt_cpy {h : Hp} {a b : Int} {N : NetT} (ha : nA a) (hb : nA b) (hne : a ≠ b) (hN : N.2.length ≤ 40) (H : CNt h b N) : CNt (cpy (cpy (up (up h a 0 (h b 0)) a 1 ((up h a 0 (h b 0)) b 1)) (b + 1) (a + 1) 40) (b + 2) (a + 2) 40) a N := by
  obtain ⟨h1, h2, h3⟩ := H
  refine ⟨?_, ?_, fun p hp => ?_⟩
  · unfold cpy up
    rw [if_neg (by omega), if_neg (by omega), if_neg (by omega), if_pos (by omega)]
    exact h1
  · unfold cpy up
    rw [if_neg (by omega), if_neg (by omega), if_pos (by omega), if_neg (by omega)]
    exact h2
  · have := h3 p hp
    unfold cpy up
    constructor
    · rw [if_neg (by omega), if_pos (by omega), if_neg (by omega), if_neg (by omega)]
      exact this.1
    · rw [if_pos (by omega), if_neg (by omega), if_neg (by omega), if_neg (by omega)]
      exact this.2
theorem cpy_out {h : Hp} {a b x y : Int} (hx : ¬ (a ≤ x ∧ x ≤ a + 2)) : cpy (cpy (up (up h a 0 (h b 0)) a 1 ((up h a 0 (h b 0)) b 1)) (b + 1) (a + 1) 40) (b + 2) (a + 2) 40 x y = h x y := by
  unfold cpy up
  rw [if_neg (by omega), if_neg (by omega), if_neg (by omega), if_neg (by omega)]
/-- takeOver: the picture of b at a, nothing else -/
theorem c_takeOver {h : Hp} {a b : Int} {N : NetT} {Q : Hp → Prop} (ha : nA a) (hb : nA b) (hne : a ≠ b) (hN : N.2.length ≤ 40) (H : CNt h b N) (hq : ∀ h', CNt h' a N → (∀ x y, ¬ (a ≤ x ∧ x ≤ a + 2) → h' x y = h x y) → Q h') : CV 3 mX3_takeOver [vr a, vr b] h Q :=
  sX3_takeOver ⟨⟨hb, ha⟩, hq _ (CNt_cpy ha hb hne hN H) (fun _ _ hx => cpy_out hx)⟩
theorem rem12 {z : Int} (h0 : 0 ≤ z) (h1 : z < 100) : j_irem z 12 = z % 12 := by
  have := jrem (a := z.toNat) (b := 12) (by omega) (by omega)
  rw [show ((z.toNat : Nat) : Int) = z by omega] at this
  rw [show ((12 : Nat) : Int) = 12 from rfl] at this
  rw [this]
  omega
def aH (a : Int) : Prop := (20 ≤ a ∧ a ≤ 67) ∨ a = 70 ∨ a = 72
theorem c_remember {h : Hp} {k : Nat} {N : NetT} {hist : List (Nat × NetT)} {Q : Hp → Prop} (hk : k < 4) (hok : okN N) (H : CNt h (4 * k) N) (hh : HiC h hist) (hq : ∀ h', HiC h' (((k, N) :: hist).take 12) → (∀ x y, ¬ aH x → h' x y = h x y) → Q h') : CV 5 mX10_remember [vr 68, vi k] h Q := by
  obtain ⟨g1, g2, g3, g4, g5⟩ := hh
  refine sX10_remember ⟨fun c => absurd c (by omega), fun _ => ⟨by omega, sX2_keep ⟨⟨by omega, by omega⟩, c_takeOver (N := N) (by omega) (by omega) (by omega) hok.2.2.1 H (fun h' q1 q2 => ⟨?_, hq _ ?_ ?_⟩)⟩⟩⟩
  · rw [q2 70 2 (by omega), q2 70 3 (by omega)]
    omega
  · have e2 : h' 70 2 = h 70 2 := q2 70 2 (by omega)
    have e3 : h' 70 3 = h 70 3 := q2 70 3 (by omega)
    rw [e2, e3, rem12 (by omega) (by omega)]
    obtain ⟨nx, hnx⟩ : ∃ nx, nx = h 70 2 := ⟨_, rfl⟩
    rw [← hnx] at g3 g4 g5 e2 q1 q2 ⊢
    have rd2 : (up (up (up h' 72 nx k) 70 2 ((nx + 1) % 12)) 70 3 (if h 70 3 + 1 > 12 then 12 else h 70 3 + 1)) 70 2 = (nx + 1) % 12 := by rw [up_no (by omega), up_eq]
    have len : (((k, N) :: hist).take 12).length = if hist.length + 1 > 12 then 12 else hist.length + 1 := by
      rw [List.length_take, List.length_cons]; split <;> omega
    refine ⟨?_, by rw [len]; split <;> omega, by rw [rd2]; omega, by rw [rd2]; omega, fun t ht => ?_⟩
    · rw [up_eq, len, g1]; split <;> split <;> omega
    · rw [rd2]
      have htl : t < 12 ∧ t < hist.length + 1 := by rw [len] at ht; split at ht <;> omega
      have e72 : ∀ y, (up (up (up h' 72 nx k) 70 2 ((nx + 1) % 12)) 70 3 (if h 70 3 + 1 > 12 then 12 else h 70 3 + 1)) 72 y = if y = nx then (k : Int) else h 72 y := by
        intro y
        rw [up_no (by omega), up_no (by omega)]
        by_cases hy : y = nx
        · subst hy; rw [up_eq, if_pos rfl]
        · rw [up_no (by omega), if_neg hy, q2 72 y (by omega)]
      have eN : ∀ x y, 20 ≤ x → x ≤ 67 → (up (up (up h' 72 nx k) 70 2 ((nx + 1) % 12)) 70 3 (if h 70 3 + 1 > 12 then 12 else h 70 3 + 1)) x y = h' x y := fun x y r1 r2 => by rw [up_no (by omega), up_no (by omega), up_no (by omega)]
      match t, ht, htl with
      | 0, ht, htl =>
        have es : slot ((nx + 1) % 12) 0 = nx := by unfold slot; omega
        rw [es, e72, if_pos rfl]
        exact ⟨hk, hok, rfl, CNt_c (fun x y r1 r2 => eN x y (by omega) (by omega)) q1⟩
      | t + 1, ht, htl =>
        have htt : t < hist.length := by omega
        have es : slot ((nx + 1) % 12) (t + 1) = slot nx t := by unfold slot; omega
        have en : slot nx t ≠ nx := by unfold slot; omega
        have er := slot_r nx t
        have ge : (((k, N) :: hist).take 12)[t + 1] = hist[t] := by simp
        obtain ⟨r1, r2, r3, r4⟩ := g5 t htt
        rw [es, e72, if_neg en, ge]
        refine ⟨r1, r2, r3, CNt_c (fun x y s1 s2 => ?_) r4⟩
        rw [eN x y (by omega) (by omega), q2 x y (by omega)]
  · intro x y hx
    unfold aH at hx
    rw [up_no (by omega), up_no (by omega), up_no (by omega), q2 x y (by omega)]
/-! the reference's side -/
def hsh (h : Hp) (j : Int) : Hp := fun a y => if a = 112 ∧ 0 ≤ y ∧ y < j then h 112 (y + 328) else h a y
def hr2 (h : Hp) (B k : Int) : Hp := fun a y => if a = 112 ∧ B ≤ y ∧ y < B + 2 * k then (if (y - B) % 2 = 0 then h 104 ((y - B) / 2) else h 105 ((y - B) / 2)) else h a y
def hr3 (h : Hp) (B i : Int) : Hp := fun a y => if a = 112 ∧ B ≤ y ∧ y < B + 2 * i then (if (y - B) % 2 = 0 then h 106 ((y - B) / 2) else h 107 ((y - B) / 2)) else h a y
theorem rem_shift {h : Hp} {Q : Hp → Prop} (kk : E 0 mX11_remembers 11 [(0, vr 103), (1, vi 3608)] [] (hsh h 3608) (qv Q)) : ∀ (m : Nat) (j : Int), 0 ≤ j → (m : Int) = 3608 - j → E 0 mX11_remembers 11 [(0, vr 103), (1, vi j)] [] (hsh h j) (qv Q)
  | 0, j, h0, hm => by rw [show j = 3608 by omega]; exact kk
  | m + 1, j, h0, hm => by
    have ih := rem_shift kk m (j + 1) (by omega) (by omega)
    refine sX11_remembers_11 ⟨fun c => absurd c (by omega), fun c => ⟨by omega, ?_⟩⟩
    have e : up (hsh h j) 112 j (hsh h j 112 (j + 328)) = hsh h (j + 1) := by
      funext a y
      unfold up hsh
      by_cases c1 : a = 112 ∧ y = j
      · rw [if_pos c1, if_neg (by omega), if_pos (by omega), c1.2]
      · rw [if_neg c1]
        by_cases c2 : a = 112 ∧ 0 ≤ y ∧ y < j
        · rw [if_pos c2, if_pos (by omega)]
        · rw [if_neg c2, if_neg (by omega)]
    rw [e]
    exact ih
theorem rem_two {h : Hp} {B : Int} {Q : Hp → Prop} (hB : 0 ≤ B) (hB2 : B ≤ 3608) (kk : E 0 mX11_remembers 61 [(0, vr 103), (1, vi (B + 8)), (2, vi 4)] [] (hr2 h B 4) (qv Q)) : ∀ (m : Nat) (k : Int), 0 ≤ k → (m : Int) = 4 - k → E 0 mX11_remembers 61 [(0, vr 103), (1, vi (B + 2 * k)), (2, vi k)] [] (hr2 h B k) (qv Q)
  | 0, k, h0, hm => by rw [show k = 4 by omega]; exact kk
  | m + 1, k, h0, hm => by
    have ih := rem_two hB hB2 kk m (k + 1) (by omega) (by omega)
    refine sX11_remembers_61 ⟨fun c => absurd c (by omega), fun c => ⟨by omega, ?_⟩⟩
    have e : up (up (hr2 h B k) 112 (B + 2 * k) (hr2 h B k 104 k)) 112 (B + 2 * k + 1) (hr2 h B k 105 k) = hr2 h B (k + 1) := by
      funext a y
      unfold up hr2
      rw [if_neg (by omega : ¬ ((104 : Int) = 112 ∧ _)), if_neg (by omega : ¬ ((105 : Int) = 112 ∧ _))]
      by_cases c1 : a = 112 ∧ y = B + 2 * k + 1
      · rw [if_pos c1, if_pos (by omega), if_neg (by omega), show (y - B) / 2 = k by omega]
      · rw [if_neg c1]
        by_cases c2 : a = 112 ∧ y = B + 2 * k
        · rw [if_pos c2, if_pos (by omega), if_pos (by omega), show (y - B) / 2 = k by omega]
        · rw [if_neg c2]
          by_cases c3 : a = 112 ∧ B ≤ y ∧ y < B + 2 * k
          · rw [if_pos c3, if_pos (show a = 112 ∧ B ≤ y ∧ y < B + 2 * (k + 1) by omega)]
          · rw [if_neg c3, if_neg (show ¬ (a = 112 ∧ B ≤ y ∧ y < B + 2 * (k + 1)) by omega)]
    rw [show B + 2 * k + 1 + 1 = B + 2 * (k + 1) by omega, e]
    exact ih
theorem rem_all {h : Hp} {B : Int} {Q : Hp → Prop} (hB : 0 ≤ B) (hB2 : B ≤ 3616) (kk : E 0 mX11_remembers 104 [(0, vr 103), (1, vi (B + 320)), (2, vi 160)] [] (hr3 h B 160) (qv Q)) : ∀ (m : Nat) (k : Int), 0 ≤ k → (m : Int) = 160 - k → E 0 mX11_remembers 104 [(0, vr 103), (1, vi (B + 2 * k)), (2, vi k)] [] (hr3 h B k) (qv Q)
  | 0, k, h0, hm => by rw [show k = 160 by omega]; exact kk
  | m + 1, k, h0, hm => by
    have ih := rem_all hB hB2 kk m (k + 1) (by omega) (by omega)
    refine sX11_remembers_104 ⟨fun c => absurd c (by omega), fun c => ⟨by omega, ?_⟩⟩
    have e : up (up (hr3 h B k) 112 (B + 2 * k) (hr3 h B k 106 k)) 112 (B + 2 * k + 1) (hr3 h B k 107 k) = hr3 h B (k + 1) := by
      funext a y
      unfold up hr3
      rw [if_neg (by omega : ¬ ((106 : Int) = 112 ∧ _)), if_neg (by omega : ¬ ((107 : Int) = 112 ∧ _))]
      by_cases c1 : a = 112 ∧ y = B + 2 * k + 1
      · rw [if_pos c1, if_pos (by omega), if_neg (by omega), show (y - B) / 2 = k by omega]
      · rw [if_neg c1]
        by_cases c2 : a = 112 ∧ y = B + 2 * k
        · rw [if_pos c2, if_pos (by omega), if_pos (by omega), show (y - B) / 2 = k by omega]
        · rw [if_neg c2]
          by_cases c3 : a = 112 ∧ B ≤ y ∧ y < B + 2 * k
          · rw [if_pos c3, if_pos (show a = 112 ∧ B ≤ y ∧ y < B + 2 * (k + 1) by omega)]
          · rw [if_neg c3, if_neg (show ¬ (a = 112 ∧ B ≤ y ∧ y < B + 2 * (k + 1)) by omega)]
    rw [show B + 2 * k + 1 + 1 = B + 2 * (k + 1) by omega, e]
    exact ih
/-- what the reference has kept behind remembers: t = 0 is the state now -/
def KpM (h : Hp) (nets : Nat → NetT) (hist : List (Nat × NetT)) (len : Nat) : Prop := h 103 11 = len ∧ ∀ t : Nat, t < len → ∀ k : Nat, k < 4 → KNt h ((len : Int) - 1 - t) k (back nets (hist.take t) k)
theorem rem_row {h g : Hp} {B : Int} {nets : Nat → NetT} (hg : ∀ a y, a ≠ 112 → g a y = h a y) (hok : ∀ k : Nat, k < 4 → okN (nets k)) (hm : ∀ k : Nat, k < 4 → MNt h k (nets k)) (r : Int) (hr : B = 328 * r) {k : Nat} (hk : k < 4) : KNt (hr3 (hr2 g B 4) (B + 8) 160) r k (nets k) := by
  obtain ⟨m1, m2, m3⟩ := hm k hk
  have hl := (hok k hk).2.2.1
  refine ⟨?_, ?_, fun p hp => ?_⟩
  · unfold hr3 hr2
    rw [if_neg (by omega), if_pos (by omega), if_pos (by omega), show (328 * r + 2 * (k : Int) - B) / 2 = k by omega, hg _ _ (by omega)]
    exact m1
  · unfold hr3 hr2
    rw [if_neg (by omega), if_pos (by omega), if_neg (by omega), show (328 * r + 2 * (k : Int) + 1 - B) / 2 = k by omega, hg _ _ (by omega)]
    exact m2
  · have hp40 : p < 40 := by omega
    have e := m3 p hp
    constructor
    · unfold hr3
      rw [if_pos (by omega), if_pos (by omega), show (328 * r + 8 + 2 * (40 * (k : Int) + p) - (B + 8)) / 2 = 40 * k + p by omega]
      unfold hr2
      rw [if_neg (by omega), hg _ _ (by omega)]
      exact e.1
    · unfold hr3
      rw [if_pos (by omega), if_neg (by omega), show (328 * r + 8 + 2 * (40 * (k : Int) + p) + 1 - (B + 8)) / 2 = 40 * k + p by omega]
      unfold hr2
      rw [if_neg (by omega), hg _ _ (by omega)]
      exact e.2
theorem rem_old {h : Hp} {B y : Int} (hy : y < B ∨ B + 328 ≤ y) : hr3 (hr2 h B 4) (B + 8) 160 112 y = h 112 y := by
  unfold hr3 hr2
  rw [if_neg (by omega), if_neg (by omega)]
theorem rem_oth {h : Hp} {B a y : Int} (ha : a ≠ 112) : hr3 (hr2 h B 4) (B + 8) 160 a y = h a y := by
  unfold hr3 hr2
  rw [if_neg (by omega), if_neg (by omega)]
theorem rem_tail {h : Hp} {B : Int} {Q : Hp → Prop} (hB : 0 ≤ B) (hB2 : B ≤ 3608) (hc : rj (h 103 11 + 1)) (hq : Q (up (hr3 (hr2 h B 4) (B + 8) 160) 103 11 (h 103 11 + 1))) : E 0 mX11_remembers 61 [(0, vr 103), (1, vi B), (2, vi 0)] [] h (qv Q) := by
  have e0 : hr2 h B 0 = h := by
    funext a y
    unfold hr2
    rw [if_neg (by omega)]
  have k1 := rem_two (h := h) (B := B) (Q := Q) hB hB2 (sX11_remembers_61 ⟨fun _ => ?_, fun c => absurd c (by omega)⟩) 4 0 (by omega) (by omega)
  · rw [show B + 2 * (0 : Int) = B by omega, e0] at k1
    exact k1
  · have e1 : hr3 (hr2 h B 4) (B + 8) 0 = hr2 h B 4 := by
      funext a y
      unfold hr3
      rw [if_neg (by omega)]
    have k2 := rem_all (h := hr2 h B 4) (B := B + 8) (Q := Q) (by omega) (by omega) (sX11_remembers_104 ⟨fun _ => ?_, fun c => absurd c (by omega)⟩) 160 0 (by omega) (by omega)
    · rw [show B + 8 + 2 * (0 : Int) = B + 8 by omega, e1] at k2
      exact k2
    · rw [rem_oth (by omega)]
      exact ⟨hc, hq⟩
theorem upN_ok {nets : Nat → NetT} {j : Nat} {N : NetT} (hok : ∀ k : Nat, k < 4 → okN (nets k)) (hN : okN N) : ∀ k : Nat, k < 4 → okN (upN nets j N k) := by
  intro k hk
  unfold upN
  split
  · exact hN
  · exact hok k hk
theorem back_ok : ∀ (hist : List (Nat × NetT)) (nets : Nat → NetT), (∀ k : Nat, k < 4 → okN (nets k)) → (∀ q ∈ hist, okN q.2) → ∀ k : Nat, k < 4 → okN (back nets hist k)
  | [], nets, hok, _ => hok
  | q :: r, nets, hok, hq => back_ok r (upN nets q.1 q.2) (upN_ok hok (hq q List.mem_cons_self)) (fun p hp => hq p (List.mem_cons_of_mem _ hp))
theorem KNt_mv {g h : Hp} {r r' : Int} {k : Nat} {N : NetT} (hk : k < 4) (hl : N.2.length ≤ 40) (e : ∀ z, 0 ≤ z → z < 328 → g 112 (328 * r + z) = h 112 (328 * r' + z)) (H : KNt h r' k N) : KNt g r k N := by
  obtain ⟨h1, h2, h3⟩ := H
  refine ⟨?_, ?_, fun p hp => ?_⟩
  · rw [e (2 * (k : Int)) (by omega) (by omega)]; exact h1
  · rw [show 328 * r + 2 * (k : Int) + 1 = 328 * r + (2 * (k : Int) + 1) by omega, e (2 * (k : Int) + 1) (by omega) (by omega), show 328 * r' + (2 * (k : Int) + 1) = 328 * r' + 2 * (k : Int) + 1 by omega]; exact h2
  · have := h3 p hp
    rw [show 328 * r + 8 + 2 * (40 * (k : Int) + p) = 328 * r + (8 + 2 * (40 * (k : Int) + p)) by omega, e (8 + 2 * (40 * (k : Int) + p)) (by omega) (by omega), show 328 * r + (8 + 2 * (40 * (k : Int) + p)) + 1 = 328 * r + (8 + 2 * (40 * (k : Int) + p) + 1) by omega, e (8 + 2 * (40 * (k : Int) + p) + 1) (by omega) (by omega), show 328 * r' + (8 + 2 * (40 * (k : Int) + p)) = 328 * r' + 8 + 2 * (40 * (k : Int) + p) by omega, show 328 * r' + (8 + 2 * (40 * (k : Int) + p) + 1) = 328 * r' + 8 + 2 * (40 * (k : Int) + p) + 1 by omega]
    exact this
theorem m_remembers {h : Hp} {nets : Nat → NetT} {hist : List (Nat × NetT)} {Q : Hp → Prop} (hok : ∀ k : Nat, k < 4 → okN (nets k)) (hoh : ∀ q ∈ hist, okN q.2) (hm : ∀ k : Nat, k < 4 → MNt h k (nets k)) (hM : HiM h nets hist) (hl : hist.length ≤ 12) (hq : ∀ h', KpM h' nets hist (if hist.length + 1 > 12 then 12 else hist.length + 1) → (∀ x y, ¬ (x = 112 ∨ (x = 103 ∧ y = 11)) → h' x y = h x y) → Q h') : CV 0 mX11_remembers [vr 103] h Q := by
  obtain ⟨q1, q2⟩ := hM
  have hlen : ∀ t : Nat, ∀ k : Nat, k < 4 → (back nets (hist.take t) k).2.length ≤ 40 := fun t k hk => (back_ok (hist.take t) nets hok (fun q h => hoh q (List.mem_of_mem_take h)) k hk).2.2.1
  by_cases hf : hist.length = 12
  · refine sX11_remembers ⟨fun c => absurd q1 (by rw [hf]; exact c), fun _ => ?_⟩
    have e0 : hsh h 0 = h := by
      funext a y
      unfold hsh
      rw [if_neg (by omega)]
    have k1 := rem_shift (h := h) (Q := Q) (sX11_remembers_11 ⟨fun _ => ?_, fun c => absurd c (by omega)⟩) 3608 0 (by omega) (by omega)
    · rw [e0] at k1
      exact k1
    · have e1 : hsh h 3608 103 11 = 12 := by unfold hsh; rw [if_neg (by omega), q1, hf]; rfl
      rw [e1]
      refine ⟨by omega, ?_⟩
      have gg : ∀ a y, a ≠ 112 → up (hsh h 3608) 103 11 (12 - 1) a y = if a = 103 ∧ y = 11 then 11 else h a y := by
        intro a y ha
        unfold up hsh
        by_cases c1 : a = 103 ∧ y = 11
        · rw [if_pos c1, if_pos c1]; rfl
        · rw [if_neg c1, if_neg c1, if_neg (by omega)]
      refine rem_tail (B := (12 - 1) * 328) (by omega) (by omega) (by rw [up_eq]; omega) (hq _ ⟨?_, fun t ht k hk => ?_⟩ (fun x y hx => ?_))
      · rw [up_eq, up_eq, if_pos (by omega)]; rfl
      · rw [if_pos (by omega)] at ht ⊢
        refine KNt_c (h := hr3 (hr2 (up (hsh h 3608) 103 11 (12 - 1)) ((12 - 1) * 328) 4) ((12 - 1) * 328 + 8) 160) (fun y => up_no (by omega)) ?_
        match t, ht with
        | 0, ht =>
          refine rem_row (h := up h 103 11 11) (nets := nets) (fun a y ha => ?_) hok (fun j hj => MNt_c (fun x y r1 r2 => up_no (by omega)) (hm j hj)) _ (by omega) hk
          rw [gg a y ha]
          unfold up
          rfl
        | t + 1, ht =>
          refine KNt_mv (h := h) (r' := (hist.length : Int) - 1 - t) hk (hlen _ k hk) (fun z z1 z2 => ?_) (q2 t (by omega) k hk)
          rw [rem_old (by omega), up_no (by omega)]
          unfold hsh
          rw [if_pos (by omega), hf]
          congr 1
          omega
      · rw [up_no (by omega), rem_oth (by omega), gg x y (by omega), if_neg (by omega)]
  · have hlt : hist.length < 12 := by omega
    refine sX11_remembers ⟨fun _ => ⟨by rw [q1]; omega, ?_⟩, fun c => absurd c (by rw [q1]; omega)⟩
    refine rem_tail (by rw [q1]; omega) (by rw [q1]; omega) (by rw [q1]; omega) (hq _ ⟨?_, fun t ht k hk => ?_⟩ (fun x y hx => ?_))
    · rw [up_eq, q1, if_neg (by omega)]; omega
    · rw [if_neg (by omega)] at ht ⊢
      refine KNt_c (h := hr3 (hr2 h (h 103 11 * 328) 4) (h 103 11 * 328 + 8) 160) (fun y => up_no (by omega)) ?_
      match t, ht with
      | 0, ht => exact rem_row (h := h) (nets := nets) (fun a y ha => rfl) hok hm _ (by rw [q1]; omega) hk
      | t + 1, ht =>
        refine KNt_mv (h := h) (r' := (hist.length : Int) - 1 - t) hk (hlen _ k hk) (fun z z1 z2 => ?_) (q2 t (by omega) k hk)
        rw [rem_old (by rw [q1]; omega)]
        congr 1
        omega
    · rw [up_no (by omega), rem_oth (by omega)]
