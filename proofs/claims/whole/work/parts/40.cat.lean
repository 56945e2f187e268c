/-! concatenate, beside -/
def shf (s : Nat) (cs : List (Nat × Nat)) : List (Nat × Nat) := cs.map (fun c : Nat × Nat => (c.1 + s, c.2 + s))
theorem shf_0 {cs : List (Nat × Nat)} : shf 0 cs = cs := by unfold shf; simp
theorem shf_len {s : Nat} {cs : List (Nat × Nat)} : (shf s cs).length = cs.length := by unfold shf; rw [List.length_map]
theorem ins_end {cs : List (Nat × Nat)} {c : Nat × Nat} : ins cs cs.length c = cs ++ [c] := by unfold ins; rw [List.take_length, List.drop_length]
theorem Row_snoc {h h' : Hp} {A B o : Int} {cs : List (Nat × Nat)} {f t : Nat} (H : Row h A B o cs) (e1 : ∀ y : Nat, y < cs.length → h' A (o + y) = h A (o + y) ∧ h' B (o + y) = h B (o + y)) (e2 : h' A (o + cs.length) = f ∧ h' B (o + cs.length) = t) : Row h' A B o (cs ++ [(f, t)]) := by
  rw [← ins_end]
  exact Row_ins H (Nat.le_refl _) e1 e2 (fun y h1 h2 => absurd h2 (by omega))
theorem c_push1 {h : Hp} {a : Int} {w : Nat} {cs : List (Nat × Nat)} {f t : Nat} {Q : Hp → Prop} (ha : nA a) (H : CNt h a (w, cs)) (hl : cs.length < 40) (hf : f < w) (ht : t < w) (hft : f ≠ t) (hq : ∀ h', CNt h' a (w, cs ++ [(f, t)]) → (∀ x y, ¬ (a ≤ x ∧ x ≤ a + 2) → h' x y = h x y) → Q h') : CV 2 mX3_push [vr a, vi f, vi t] h Q := by
  obtain ⟨e0, e1, e2⟩ := H
  have e0 : h a 0 = w := e0
  have e1 : h a 1 = cs.length := e1
  have e2 : Row h (a + 1) (a + 2) 0 cs := e2
  refine sX3_push ⟨ha, sX3_refusal ⟨⟨ha, fun _ => ha⟩, fun c => absurd c (by omega), fun _ => ⟨⟨ha, fun _ => ha⟩, fun _ => ⟨fun _ => ⟨ha, fun _ => ?_, fun c => absurd (if_pos (by omega)) c⟩, fun c => absurd c (by omega)⟩, fun c => absurd c (by omega)⟩⟩⟩
  have k1 : (up h (a + 1) (h a 1) f) a 1 = cs.length := by rw [up_no (by omega)]; exact e1
  have k2 : (up (up h (a + 1) (h a 1) f) (a + 2) ((up h (a + 1) (h a 1) f) a 1) t) a 1 = cs.length := by rw [up_no (by omega)]; exact k1
  rw [k2, k1, e1]
  refine ⟨⟨ha, by omega, by omega, by omega⟩, hq _ ⟨?_, ?_, ?_⟩ (fun x y hx => ?_)⟩
  · rw [up_no (by omega), up_no (by omega), up_no (by omega)]; exact e0
  · show _ = (((cs ++ [(f, t)]).length : Nat) : Int)
    rw [up_eq, List.length_append, List.length_singleton]; omega
  · refine Row_snoc e2 (fun y hy => ⟨?_, ?_⟩) ⟨?_, ?_⟩
    · rw [up_no (by omega), up_no (by omega), up_no (by omega)]
    · rw [up_no (by omega), up_no (by omega), up_no (by omega)]
    · rw [Int.zero_add, up_no (by omega), up_no (by omega), up_eq]
    · rw [Int.zero_add, up_no (by omega), up_eq]
  · rw [up_no (by omega), up_no (by omega), up_no (by omega)]
theorem drop_c {ds : List (Nat × Nat)} {j s : Nat} (hj : j < ds.length) : shf s (ds.drop j) = ((ds[j]).1 + s, (ds[j]).2 + s) :: shf s (ds.drop (j + 1)) := by
  rw [List.drop_eq_getElem_cons hj]; rfl
theorem drop_n {ds : List (Nat × Nat)} {j s : Nat} (hj : ds.length ≤ j) : shf s (ds.drop j) = [] := by
  rw [List.drop_eq_nil_of_le hj]; rfl
theorem pa_loop {a b : Int} {w s w2 : Nat} {ds : List (Nat × Nat)} {Q : Hp → Prop} (ha : nA a) (hb : nA b) (hab : a ≠ b) (hw : w ≤ 8) (hl : ds.length ≤ 40) (hd : ∀ d ∈ ds, d.1 + s < w ∧ d.2 + s < w ∧ d.1 ≠ d.2) : ∀ (m j : Nat) (h : Hp) (cs : List (Nat × Nat)), CNt h b (w2, ds) → CNt h a (w, cs) → j ≤ ds.length → m = ds.length - j → cs.length + m ≤ 40 → (∀ g, CNt g a (w, cs ++ shf s (ds.drop j)) → (∀ x y, ¬ (a ≤ x ∧ x ≤ a + 2) → g x y = h x y) → Q g) → E 3 mX3_pushAll 8 [(0, vr a), (1, vr b), (2, vi s), (3, vi ds.length), (4, vi j)] [] h (qv Q)
  | 0, j, h, cs, B, A, h1, h2, h3, hq => by
    refine sX3_pushAll_8 ⟨fun _ => hq h ?_ (fun _ _ _ => rfl), fun c => absurd c (by omega)⟩
    rw [drop_n (by omega), List.append_nil]; exact A
  | m + 1, j, h, cs, B, A, h1, h2, h3, hq => by
    have hj : j < ds.length := by omega
    have hm := hd _ (List.getElem_mem hj)
    obtain ⟨b1, b2⟩ := B.2.2 j hj
    rw [Int.zero_add] at b1 b2
    refine sX3_pushAll_8 ⟨fun c => absurd c (by omega), fun _ => ?_⟩
    rw [b1, b2]
    have b3 : ((((w2, ds) : NetT).2[j]).1 : Int) = (ds[j]).1 := rfl
    have b4 : ((((w2, ds) : NetT).2[j]).2 : Int) = (ds[j]).2 := rfl
    rw [b3, b4]
    refine ⟨⟨hb, by omega, by omega, by omega, ha⟩, ?_⟩
    rw [show ((ds[j]).1 : Int) + s = (((ds[j]).1 + s : Nat) : Int) by omega, show ((ds[j]).2 : Int) + s = (((ds[j]).2 + s : Nat) : Int) by omega]
    refine c_push1 ha A (by omega) hm.1 hm.2.1 (by omega) (fun g r1 r2 => ⟨by omega, ?_⟩)
    refine pa_loop ha hb hab hw hl hd m (j + 1) g _ (CNt_c (fun x y p1 p2 => r2 x y (by omega)) B) r1 (by omega) (by omega) (by rw [List.length_append, List.length_singleton]; omega) (fun g2 q1 q2 => hq g2 ?_ (fun x y hx => by rw [q2 x y hx, r2 x y hx]))
    rw [drop_c hj]
    rw [List.append_assoc] at q1
    exact q1
theorem c_pushAll {h : Hp} {a b : Int} {w s w2 : Nat} {cs ds : List (Nat × Nat)} {Q : Hp → Prop} (ha : nA a) (hb : nA b) (hab : a ≠ b) (hw : w ≤ 8) (hl : cs.length + ds.length ≤ 40) (hd : ∀ d ∈ ds, d.1 + s < w ∧ d.2 + s < w ∧ d.1 ≠ d.2) (B : CNt h b (w2, ds)) (A : CNt h a (w, cs)) (hq : ∀ g, CNt g a (w, cs ++ shf s ds) → (∀ x y, ¬ (a ≤ x ∧ x ≤ a + 2) → g x y = h x y) → Q g) : CV 3 mX3_pushAll [vr a, vr b, vi s] h Q := by
  refine sX3_pushAll ⟨hb, ?_⟩
  rw [B.2.1]
  exact pa_loop (w2 := w2) ha hb hab hw (by omega) hd ds.length 0 h cs B A (by omega) (by omega) (by omega) (fun g q1 q2 => hq g q1 q2)
theorem c_replace {h : Hp} {k : Nat} {N N' : NetT} {hist : List (Nat × NetT)} {Q : Int → Hp → Prop} (hk : k < 4) (hok : okN N) (hok' : okN N') (A : CNt h (4 * k) N) (S : CNt h 16 N') (hC : HiC h hist) (hq : ∀ g, CP h g k N N' hist → Q N'.2.length g) : CI 6 mX10_replaceBySpare [vr 68, vi k] h Q := by
  refine sX10_replaceBySpare (c_remember hk hok A hC (fun g q1 q2 => ⟨by omega, ?_⟩))
  refine c_takeOver (N := N') (by omega) (by omega) (by omega) hok'.2.2.1 (CNt_c (fun x y r1 r2 => q2 x y (by unfold aH; omega)) S) (fun g2 r1 r2 => ?_)
  rw [r2 16 1 (by omega), q2 16 1 (by unfold aH; omega), S.2.1]
  refine hq g2 ⟨HiC_f (fun x y hx => r2 x y (by unfold aH at hx; omega)) q1, r1, fun x y hx => ?_⟩
  unfold kC at hx
  rw [r2 x y (by omega), q2 x y (by unfold aH; omega)]
theorem col_loop {k s l2 : Nat} {N : NetT} {Q : Int → Hp → Prop} (hk : k < 4) (hok : okN N) (hs : s ≤ 8) (hl : l2 + N.2.length ≤ 80) : ∀ (m j : Nat) (h : Hp) (cs : List (Nat × Nat)), MNt h k N → Row h 125 126 0 cs → cs.length = l2 + j → j ≤ N.2.length → m = N.2.length - j → (∀ g, Row g 125 126 0 (cs ++ shf s (N.2.drop j)) → (∀ x y, ¬ (x = 125 ∨ x = 126) → g x y = h x y) → Q (l2 + N.2.length) g) → E 0 mX11_collects 3 [(0, vr 103), (1, vi k), (2, vi l2), (3, vi s), (4, vi j)] [] h (qi Q)
  | 0, j, h, cs, M, A, h0, h1, h2, hq => by
    have e1 := M.2.1
    refine sX11_collects_3 ⟨by omega, fun _ => ⟨by omega, ?_⟩, fun c => absurd c (by omega)⟩
    rw [e1]
    refine hq h ?_ (fun _ _ _ => rfl)
    rw [drop_n (by omega), List.append_nil]; exact A
  | m + 1, j, h, cs, M, A, h0, h1, h2, hq => by
    have e1 := M.2.1
    have hj : j < N.2.length := by omega
    obtain ⟨b1, b2, b3, b4, b5⟩ := row_at M.2.2 hok.2.2.2 hj
    have w8 := hok.2.1
    have l40 := hok.2.2.1
    refine sX11_collects_3 ⟨by omega, fun c => absurd c (by omega), fun _ => ?_⟩
    rw [b1, b2]
    refine ⟨by omega, ?_⟩
    have fr : ∀ x y, ¬ (x = 125 ∨ x = 126) → up (up h 125 (l2 + j) ((N.2[j]).1 + s)) 126 (l2 + j) ((N.2[j]).2 + s) x y = h x y := fun x y hx => by rw [up_no (by omega), up_no (by omega)]
    refine col_loop hk hok hs hl m (j + 1) _ (cs ++ [((N.2[j]).1 + s, (N.2[j]).2 + s)]) (MNt_c (fun x y p1 p2 => fr x y (by omega)) M) (Row_snoc A (fun y hy => ⟨by rw [up_no (by omega), up_no (by omega)], by rw [up_no (by omega), up_no (by omega)]⟩) ⟨?_, ?_⟩) (by rw [List.length_append, List.length_singleton]; omega) (by omega) (by omega) (fun g q1 q2 => hq g ?_ (fun x y hx => by rw [q2 x y hx, fr x y hx]))
    · rw [show (0 : Int) + cs.length = l2 + j by omega, up_no (by omega), up_eq]; omega
    · rw [show (0 : Int) + cs.length = l2 + j by omega, up_eq]; omega
    · rw [drop_c hj]
      rw [List.append_assoc] at q1
      exact q1
theorem m_collects {h : Hp} {k s : Nat} {N : NetT} {cs : List (Nat × Nat)} {Q : Int → Hp → Prop} (hk : k < 4) (hok : okN N) (hs : s ≤ 8) (hl : cs.length + N.2.length ≤ 80) (M : MNt h k N) (A : Row h 125 126 0 cs) (hq : ∀ g, Row g 125 126 0 (cs ++ shf s N.2) → (∀ x y, ¬ (x = 125 ∨ x = 126) → g x y = h x y) → Q ((cs ++ shf s N.2).length : Nat) g) : CI 0 mX11_collects [vr 103, vi k, vi cs.length, vi s] h Q := by
  refine sX11_collects (col_loop (l2 := cs.length) hk hok hs hl N.2.length 0 h cs M A (by omega) (by omega) (by omega) (fun g q1 q2 => ?_))
  have := hq g q1 q2
  rw [List.length_append, shf_len] at this
  exact this
theorem bec_loop {k w : Nat} {acc : List (Nat × Nat)} {Q : Hp → Prop} (hk : k < 4) (hl : acc.length ≤ 40) : ∀ (m j : Nat) (h : Hp), MNt h k (w, acc.take j) → Row h 125 126 0 acc → j ≤ acc.length → m = acc.length - j → (∀ g, MNt g k (w, acc) → (∀ x y : Int, ¬ ((x = 105 ∧ y = k) ∨ ((x = 106 ∨ x = 107) ∧ 40 * (k : Int) ≤ y ∧ y < 40 * k + 40)) → g x y = h x y) → Q g) → E 2 mX11_becomes 17 [(0, vr 103), (1, vi k), (3, vi acc.length), (4, vi j)] [] h (qv Q)
  | 0, j, h, M, A, h1, h2, hq => by
    refine sX11_becomes_17 ⟨fun _ => hq h ?_ (fun _ _ _ => rfl), fun c => absurd c (by omega)⟩
    rw [List.take_of_length_le (by omega)] at M; exact M
  | m + 1, j, h, M, A, h1, h2, hq => by
    have hj : j < acc.length := by omega
    obtain ⟨b1, b2⟩ := A j hj
    rw [Int.zero_add] at b1 b2
    have lt : (acc.take j).length = j := by rw [List.length_take]; omega
    refine sX11_becomes_17 ⟨fun c => absurd c (by omega), fun _ => ⟨by omega, sX11_appends ⟨by omega, ?_⟩⟩⟩
    rw [b1, b2, M.2.1]
    refine m_puts (N := (w, acc.take j)) (p := (acc.take j).length) hk M (Nat.le_refl _) (by show (acc.take j).length < 40; omega) (fun g r1 r2 => ⟨by omega, ?_⟩)
    have r1 : MNt g k (w, ins (acc.take j) (acc.take j).length ((acc[j]).1, (acc[j]).2)) := r1
    rw [ins_end, show acc.take j ++ [((acc[j]).1, (acc[j]).2)] = acc.take (j + 1) from (List.take_succ_eq_append_getElem hj).symm] at r1
    refine bec_loop hk hl m (j + 1) g r1 (fun p hp => ?_) (by omega) (by omega) (fun g2 q1 q2 => hq g2 q1 (fun x y hx => by rw [q2 x y hx, r2 x y hx]))
    rw [r2 _ _ (by omega), r2 _ _ (by omega)]
    exact A p hp
theorem m_becomes {h : Hp} {k w : Nat} {acc : List (Nat × Nat)} {Q : Hp → Prop} (hk : k < 4) (hl : acc.length ≤ 40) (A : Row h 125 126 0 acc) (hq : ∀ g, MNt g k (w, acc) → (∀ x y : Int, ¬ (((x = 104 ∨ x = 105) ∧ y = k) ∨ ((x = 106 ∨ x = 107) ∧ 40 * (k : Int) ≤ y ∧ y < 40 * k + 40)) → g x y = h x y) → Q g) : CV 2 mX11_becomes [vr 103, vi k, vi w, vi acc.length] h Q := by
  refine sX11_becomes ⟨by omega, bec_loop (w := w) hk hl acc.length 0 _ ⟨?_, ?_, ?_⟩ (fun p hp => ?_) (by omega) (by omega) (fun g q1 q2 => hq g q1 (fun x y hx => ?_))⟩
  · rw [up_no (by omega), up_eq]
  · rw [up_eq]; rfl
  · exact Row_nil
  · rw [up_no (by omega), up_no (by omega), up_no (by omega), up_no (by omega)]; exact A p hp
  · rw [q2 x y (by omega), up_no (by omega), up_no (by omega)]
theorem Row_to {h : Hp} {A B o : Int} : Row h A B o [] := Row_nil
theorem MP_bec {h1 g g2 : Hp} {nets : Nat → NetT} {hist : List (Nat × NetT)} {k : Nat} {N' : NetT} (q1 : KpM g nets hist (if hist.length + 1 > 12 then 12 else hist.length + 1)) (q2 : ∀ x y, kM k x y → g x y = h1 x y) (r1 : MNt g2 k N') (r2 : ∀ x y : Int, ¬ (((x = 104 ∨ x = 105) ∧ y = k) ∨ ((x = 106 ∨ x = 107) ∧ 40 * (k : Int) ≤ y ∧ y < 40 * k + 40)) → g2 x y = g x y) : MP h1 g2 nets hist k N' := by
  refine ⟨KpM_f (fun y => r2 112 y (by omega)) (r2 103 11 (by omega)) q1, r1, fun x y hx => ?_⟩
  rw [r2 x y (by unfold kM at hx; omega), q2 x y hx]
theorem okN_app {N1 N2 : NetT} {w s : Nat} (h1 : okN N1) (h2 : okN N2) (hw2 : 2 ≤ w) (hw : w ≤ 8) (hl : N1.2.length + N2.2.length ≤ 40) (ha : N1.1 ≤ w) (hb : N2.1 + s ≤ w) : okN (w, N1.2 ++ shf s N2.2) := by
  refine ⟨hw2, hw, ?_, fun c hc => ?_⟩
  · show (N1.2 ++ shf s N2.2).length ≤ 40
    rw [List.length_append, shf_len]; exact hl
  · have hc' : c ∈ N1.2 ++ shf s N2.2 := hc
    show c.1 < w ∧ c.2 < w ∧ c.1 ≠ c.2
    rcases List.mem_append.1 hc' with q | q
    · have := h1.2.2.2 c q; omega
    · unfold shf at q
      obtain ⟨d, hd, rfl⟩ := List.mem_map.1 q
      have := h2.2.2.2 d hd
      show d.1 + s < w ∧ d.2 + s < w ∧ d.1 + s ≠ d.2 + s
      omega
theorem op_concatenate {h : Hp} {a b c : Int} (hR : Rl h) : OpI 7 mX10_concatenate 3 mX11_concatenate [vi a, vi b, vi c] h := by
  obtain ⟨nets, hist, H⟩ := Rl_RlN hR
  by_cases hk : (0 ≤ a ∧ a < 4) ∧ (0 ≤ b ∧ b < 4) ∧ (0 ≤ c ∧ c < 4)
  · obtain ⟨i, hi, rfl⟩ := toN hk.1.1 hk.1.2
    obtain ⟨j, hj, rfl⟩ := toN hk.2.1.1 hk.2.1.2
    obtain ⟨k, hk3, rfl⟩ := toN hk.2.2.1 hk.2.2.2
    obtain ⟨i1, i2, i3⟩ := H.1 i hi
    obtain ⟨j1, j2, j3⟩ := H.1 j hj
    obtain ⟨k1, k2, k3⟩ := H.1 k hk3
    have li := i1.2.2.1
    have lj := j1.2.2.1
    have e1 := i2.1
    have e2 := i2.2.1
    have e3 := j2.1
    have e4 := j2.2.1
    have f1 := i3.1
    have f2 := i3.2.1
    have f3 := j3.1
    have f4 := j3.2.1
    by_cases hw : (nets i).1 = (nets j).1
    · by_cases hl : (nets i).2.length + (nets j).2.length ≤ 40
      · have okA := okN_app (w := (nets i).1) (s := 0) i1 j1 i1.1 i1.2.1 hl (Nat.le_refl _) (by omega)
        rw [shf_0] at okA
        have eL : (((nets i).2 ++ (nets j).2).length : Int) = (nets i).2.length + (nets j).2.length := by rw [List.length_append]; omega
        refine op_chg (k := k) (N' := ((nets i).1, (nets i).2 ++ (nets j).2)) (r := ((nets i).2 ++ (nets j).2).length) H hk3 okA ?_ (fun h1 ms => ?_)
        · refine sX10_concatenate ⟨fun c => absurd c (by omega), fun _ => ⟨fun c => absurd c (by omega), fun _ => ⟨fun _ => ⟨by omega, fun _ => ⟨by omega, fun _ => ⟨by omega, ?_⟩, fun c => absurd c (by omega)⟩, fun c => absurd c (by omega)⟩, fun c => absurd c (by omega)⟩⟩⟩
          refine c_takeOver (N := nets i) (by omega) (by omega) (by omega) li i2 (fun g q1 q2 => ⟨by omega, ?_⟩)
          refine c_pushAll (a := 16) (b := 4 * j) (w := (nets i).1) (s := 0) (w2 := (nets j).1) (cs := (nets i).2) (ds := (nets j).2) (by omega) (by omega) (by omega) i1.2.1 hl (fun d hd => by have := j1.2.2.2 d hd; omega) (CNt_c (fun x y r1 r2 => q2 x y (by omega)) j2) q1 (fun g2 r1 r2 => ?_)
          rw [shf_0] at r1
          have fr : ∀ x y, ¬ (16 ≤ x ∧ x ≤ 18) → g2 x y = h x y := fun x y hx => by rw [r2 x y (by omega), q2 x y (by omega)]
          refine c_replace hk3 k1 okA (CNt_c (fun x y r1 r2 => fr x y (by omega)) k2) r1 (HiC_f (fun x y hx => fr x y (by unfold aH at hx; omega)) H.2.1) (fun g3 c3 => ⟨rfl, c3.1, c3.2.1, fun x y hx => ?_⟩)
          rw [c3.2.2 x y hx, fr x y (by unfold kC at hx; omega)]
        · obtain ⟨m1, m2, m3, m4, m5⟩ := ms
          have g1 := (m1 i hi).2.1
          have g2 := (m1 i hi).2.2.1
          have g3 := (m1 j hj).2.1
          have g4 := (m1 j hj).2.2.1
          refine sX11_concatenate ⟨fun c => absurd c (by omega), fun _ => ⟨fun c => absurd c (by omega), fun _ => ⟨fun _ => ⟨by omega, fun _ => ⟨by omega, fun _ => ?_, fun c => absurd c (by omega)⟩, fun c => absurd c (by omega)⟩, fun c => absurd c (by omega)⟩⟩⟩
          refine m_remembers (nets := nets) (hist := hist) (fun j hj => (m1 j hj).1) m4 (fun j hj => (m1 j hj).2) m2 m3 (fun g q1 q2 => ?_)
          refine m_collects (k := i) (s := 0) (N := nets i) (cs := []) hi i1 (by omega) (by show 0 + _ ≤ 80; omega) (MNt_c (fun x y r1 r2 => q2 x y (by omega)) (m1 i hi).2) Row_nil (fun g2 r1 r2 => ?_)
          rw [shf_0, List.nil_append] at r1 ⊢
          refine m_collects (k := j) (s := 0) (N := nets j) (cs := (nets i).2) hj j1 (by omega) (by omega) (MNt_c (fun x y p1 p2 => by rw [r2 x y (by omega), q2 x y (by omega)]) (m1 j hj).2) r1 (fun g3 s1 s2 => ⟨by omega, ?_⟩)
          rw [shf_0] at s1 ⊢
          rw [s2 104 i (by omega), r2 104 i (by omega), q2 104 i (by omega), g1]
          refine m_becomes (w := (nets i).1) hk3 (by rw [List.length_append]; exact hl) s1 (fun g4 t1 t2 => ⟨rfl, MP_bec (g := g3) (KpM_f (fun y => by rw [s2 112 y (by omega), r2 112 y (by omega)]) (by rw [s2 103 11 (by omega), r2 103 11 (by omega)]) q1) (fun x y hx => ?_) t1 t2⟩)
          unfold kM at hx
          rw [s2 x y (by omega), r2 x y (by omega), q2 x y (by omega)]
      · refine sX10_concatenate ⟨fun c => absurd c (by omega), fun _ => ⟨fun c => absurd c (by omega), fun _ => ⟨fun _ => ⟨by omega, fun _ => ⟨by omega, fun c => absurd c (by omega), fun _ => ?_⟩, fun c => absurd c (by omega)⟩, fun c => absurd c (by omega)⟩⟩⟩
        exact sX11_concatenate ⟨fun c => absurd c (by omega), fun _ => ⟨fun c => absurd c (by omega), fun _ => ⟨fun _ => ⟨by omega, fun _ => ⟨by omega, fun c => absurd c (by omega), fun _ => ⟨rfl, hR⟩⟩, fun c => absurd c (by omega)⟩, fun c => absurd c (by omega)⟩⟩⟩
    · refine sX10_concatenate ⟨fun c => absurd c (by omega), fun _ => ⟨fun c => absurd c (by omega), fun _ => ⟨fun _ => ⟨by omega, fun c => absurd c (by omega), fun _ => ?_⟩, fun c => absurd c (by omega)⟩⟩⟩
      exact sX11_concatenate ⟨fun c => absurd c (by omega), fun _ => ⟨fun c => absurd c (by omega), fun _ => ⟨fun _ => ⟨by omega, fun c => absurd c (by omega), fun _ => ⟨rfl, hR⟩⟩, fun c => absurd c (by omega)⟩⟩⟩
  · have no : CI 3 mX11_concatenate [vr 103, vi a, vi b, vi c] h (fun r2 h2 => -1 = r2 ∧ Rl h2) := sX11_concatenate ⟨fun _ => ⟨rfl, hR⟩, fun _ => ⟨fun _ => ⟨rfl, hR⟩, fun _ => ⟨fun c => absurd c (by omega), fun _ => ⟨rfl, hR⟩⟩⟩⟩
    exact sX10_concatenate ⟨fun _ => no, fun _ => ⟨fun _ => no, fun _ => ⟨fun c => absurd c (by omega), fun _ => no⟩⟩⟩
