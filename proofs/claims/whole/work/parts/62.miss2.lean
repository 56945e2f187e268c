/-! missing, the reference's side -/
def imS (L : List Nat) (c : Nat × Nat) : Nat → List Nat
  | 0 => []
  | n + 1 => if n ∈ L then (if exq c n ∈ imS L c n then imS L c n else imS L c n ++ [exq c n]) else imS L c n
theorem imS_o {L : List Nat} {c : Nat × Nat} {n : Nat} (h : ¬ n ∈ L) : imS L c (n + 1) = imS L c n := by rw [imS, if_neg h]
theorem imS_i {L : List Nat} {c : Nat × Nat} {n : Nat} (h : n ∈ L) (h2 : exq c n ∈ imS L c n) : imS L c (n + 1) = imS L c n := by rw [imS, if_pos h, if_pos h2]
theorem imS_n {L : List Nat} {c : Nat × Nat} {n : Nat} (h : n ∈ L) (h2 : ¬ exq c n ∈ imS L c n) : imS L c (n + 1) = imS L c n ++ [exq c n] := by rw [imS, if_pos h, if_neg h2]
theorem imS_len {L : List Nat} {c : Nat × Nat} : ∀ n : Nat, (imS L c n).length ≤ n
  | 0 => Nat.le_refl _
  | n + 1 => by
    have := imS_len (L := L) (c := c) n
    by_cases q : n ∈ L
    · by_cases q2 : exq c n ∈ imS L c n
      · rw [imS_i q q2]; omega
      · rw [imS_n q q2, List.length_append, List.length_singleton]; omega
    · rw [imS_o q]; omega
theorem imS_mem {L : List Nat} {c : Nat × Nat} {z : Nat} : ∀ n : Nat, z ∈ imS L c n ↔ ∃ x : Nat, x < n ∧ x ∈ L ∧ exq c x = z
  | 0 => ⟨fun h => absurd h List.not_mem_nil, fun ⟨x, h, _⟩ => absurd h (by omega)⟩
  | n + 1 => by
    have ih := imS_mem (L := L) (c := c) (z := z) n
    have key : z ∈ imS L c (n + 1) ↔ (z ∈ imS L c n ∨ (n ∈ L ∧ exq c n = z)) := by
      by_cases q : n ∈ L
      · by_cases q2 : exq c n ∈ imS L c n
        · rw [imS_i q q2]
          refine ⟨Or.inl, fun h => h.elim id (fun h => ?_)⟩
          rw [← h.2]; exact q2
        · rw [imS_n q q2, List.mem_append, List.mem_singleton]
          exact ⟨fun h => h.elim Or.inl (fun h => Or.inr ⟨q, h.symm⟩), fun h => h.elim Or.inl (fun h => Or.inr h.2.symm)⟩
      · rw [imS_o q]
        exact ⟨Or.inl, fun h => h.elim id (fun h => absurd h.1 q)⟩
    rw [key, ih]
    constructor
    · rintro (⟨x, h1, h2, h3⟩ | ⟨h2, h3⟩)
      · exact ⟨x, by omega, h2, h3⟩
      · exact ⟨n, by omega, h2, h3⟩
    · rintro ⟨x, h1, h2, h3⟩
      by_cases e : x = n
      · right; rw [e] at h2 h3; exact ⟨h2, h3⟩
      · left; exact ⟨x, by omega, h2, h3⟩
theorem imS_nd {L : List Nat} {c : Nat × Nat} : ∀ n : Nat, (imS L c n).Nodup
  | 0 => List.nodup_nil
  | n + 1 => by
    have ih := imS_nd (L := L) (c := c) n
    by_cases q : n ∈ L
    · by_cases q2 : exq c n ∈ imS L c n
      · rw [imS_i q q2]; exact ih
      · rw [imS_n q q2]
        refine List.nodup_append.2 ⟨ih, by simp, fun a ha b hb => ?_⟩
        rw [List.mem_singleton] at hb
        intro e
        rw [e, hb] at ha
        exact q2 ha
    · rw [imS_o q]; exact ih
theorem m_co {w i j : Nat} {L : List Nat} {Q : Int → Hp → Prop} (hw : w ≤ 8) (hi : i < w) (hj : j < w) : ∀ (m n : Nat) (h : Hp), n + m = 2 ^ w → st1 h 119 L → st1 h 120 (imS L (i, j) n) → (∀ g : Hp, st1 g 120 (imS L (i, j) (2 ^ w)) → (∀ x y : Int, x ≠ 120 → g x y = h x y) → Q ((imS L (i, j) (2 ^ w)).length : Nat) g) → E 0 mX11_counts 31 [(0, vr 103), (1, vi w), (2, vi i), (3, vi j), (4, vi ((imS L (i, j) n).length : Nat)), (5, vi n)] [] h (qi Q)
  | 0, n, h, hm, A, B, hq => by
    have e1 : j_ishl 1 w = ((2 ^ w : Nat) : Int) := jshl1 (by omega)
    have en : n = 2 ^ w := by omega
    subst en
    exact sX11_counts_31 ⟨fun _ => hq h B (fun _ _ _ => rfl), fun c => absurd c (by omega)⟩
  | m + 1, n, h, hm, A, B, hq => by
    have e1 : j_ishl 1 w = ((2 ^ w : Nat) : Int) := jshl1 (by omega)
    have h256 := p256 hw
    have ha := A n (by omega)
    have lt : exq (i, j) n < 2 ^ w := exq_lt hi hj (by omega)
    have il := imS_len (L := L) (c := (i, j)) n
    have il2 := imS_len (L := L) (c := (i, j)) (n + 1)
    have hb := B (exq (i, j) n) (by omega)
    refine sX11_counts_31 ⟨fun c => absurd c (by omega), fun _ => ⟨by omega, fun c x6 hx6 => ?_, fun c => ⟨by omega, ?_⟩⟩⟩
    · have hn : n ∈ L := by
        by_cases q : n ∈ L
        · exact q
        · rw [if_neg q] at ha; exact absurd ha c
      rw [bit_c (c := (i, j)) (by omega) (by show i < 8; omega) (by show j < 8; omega)] at hx6
      subst hx6
      have ec : (((imS L (i, j) n).length : Nat) : Int) + (if h 120 (exq (i, j) n : Nat) = 0 then (1 : Int) else 0) = ((imS L (i, j) (n + 1)).length : Nat) := by
        by_cases q : exq (i, j) n ∈ imS L (i, j) n
        · rw [if_pos q] at hb
          rw [imS_i hn q, hb, if_neg (by decide)]; omega
        · rw [if_neg q] at hb
          rw [imS_n hn q, hb, if_pos rfl, List.length_append, List.length_singleton]; omega
      rw [ec]
      refine ⟨by omega, by omega, fun x9 hx9 => ⟨by omega, ?_⟩⟩
      subst hx9
      rw [show (n : Int) + 1 = ((n + 1 : Nat) : Int) by omega]
      refine m_co hw hi hj m (n + 1) _ (by omega) (fun y hy => by rw [up_no (by omega)]; exact A y hy) ?_ (fun g p1 p2 => hq g p1 (fun x y hx => by rw [p2 x y hx, up_no (by omega)]))
      by_cases q : exq (i, j) n ∈ imS L (i, j) n
      · rw [imS_i hn q]
        intro z hz
        by_cases e : z = exq (i, j) n
        · subst e; rw [up_eq, if_pos q]
        · rw [up_no (by omega)]; exact B z hz
      · rw [imS_n hn q]
        exact st1_add B
    · have hn : ¬ n ∈ L := by
        intro q
        rw [if_pos q] at ha
        rw [ha] at c
        exact absurd c (by decide)
      rw [show (n : Int) + 1 = ((n + 1 : Nat) : Int) by omega, ← imS_o hn]
      exact m_co hw hi hj m (n + 1) h (by omega) A (by rw [imS_o hn]; exact B) hq
theorem m_cz {w i j : Nat} {Q : Int → Hp → Prop} : ∀ (m n : Nat) (h : Hp), n + m = 256 → (∀ y : Nat, y < n → h 120 y = 0) → (∀ g : Hp, (∀ y : Nat, y < 256 → g 120 y = 0) → (∀ x y : Int, x ≠ 120 → g x y = h x y) → E 0 mX11_counts 31 [(0, vr 103), (1, vi w), (2, vi i), (3, vi j), (4, vi 0), (5, vi 0)] [] g (qi Q)) → E 0 mX11_counts 3 [(0, vr 103), (1, vi w), (2, vi i), (3, vi j), (4, vi n)] [] h (qi Q)
  | 0, n, h, hm, I, hq => sX11_counts_3 ⟨fun _ => hq h (fun y hy => I y (by omega)) (fun _ _ _ => rfl), fun c => absurd c (by omega)⟩
  | m + 1, n, h, hm, I, hq => by
    refine sX11_counts_3 ⟨fun c => absurd c (by omega), fun _ => ⟨by omega, ?_⟩⟩
    rw [show (n : Int) + 1 = ((n + 1 : Nat) : Int) by omega]
    refine m_cz m (n + 1) _ (by omega) (fun y hy => ?_) (fun g p1 p2 => hq g p1 (fun x y hx => by rw [p2 x y hx, up_no (by omega)]))
    by_cases q : y = n
    · subst q; rw [up_eq]
    · rw [up_no (by omega)]; exact I y (by omega)
theorem m_counts {h : Hp} {w i j : Nat} {zw zi zj : Int} {L : List Nat} {Q : Int → Hp → Prop} (ew : zw = w) (ei : zi = i) (ej : zj = j) (hw : w ≤ 8) (hi : i < w) (hj : j < w) (A : st1 h 119 L) (hq : ∀ g : Hp, st1 g 120 (imS L (i, j) (2 ^ w)) → (∀ x y : Int, x ≠ 120 → g x y = h x y) → Q ((imS L (i, j) (2 ^ w)).length : Nat) g) : CI 0 mX11_counts [vr 103, vi zw, vi zi, vi zj] h Q := by
  subst ew
  subst ei
  subst ej
  refine sX11_counts (m_cz 256 0 h (by omega) (fun y hy => absurd hy (by omega)) (fun g p1 p2 => ?_))
  exact m_co hw hi hj (2 ^ w) 0 g (by omega) (fun y hy => by rw [p2 _ _ (by omega)]; exact A y hy) (fun y hy => by rw [p1 y hy]; rfl) (fun g2 q1 q2 => hq g2 q1 (fun x y hx => by rw [q2 x y hx, p2 x y hx]))
theorem allS_iff {w : Nat} {L : List Nat} : allS w L = true ↔ ∀ y ∈ L, srY w y = true := by
  unfold allS
  exact List.all_eq_true
theorem m_as {h : Hp} {w : Nat} {r : Int} {L : List Nat} {Q : Int → Hp → Prop} (hr : r = 119 ∨ r = 120 ∨ r = 124) (hw1 : 1 ≤ w) (hw : w ≤ 8) (hU : ∀ y ∈ L, y < 2 ^ w) (A : st1 h r L) (hq : Q (if allS w L then 1 else 0) h) : ∀ (m n : Nat), n + m = 2 ^ w → (∀ y : Nat, y < n → y ∈ L → srY w y = true) → E 1 mX11_areSorted 2 [(1, vi w), (2, vr r), (3, vi n)] [] h (qi Q)
  | 0, n, hm, I => by
    have e1 : j_ishl 1 w = ((2 ^ w : Nat) : Int) := jshl1 (by omega)
    refine sX11_areSorted_2 ⟨fun _ => ?_, fun c => absurd c (by omega)⟩
    have : allS w L = true := allS_iff.2 (fun y hy => I y (by have := hU y hy; omega) hy)
    rw [this] at hq
    exact hq
  | m + 1, n, hm, I => by
    have e1 : j_ishl 1 w = ((2 ^ w : Nat) : Int) := jshl1 (by omega)
    have h256 := p256 hw
    have ha := A n (by omega)
    refine sX11_areSorted_2 ⟨fun c => absurd c (by omega), fun _ => ⟨⟨hr, by omega⟩, fun c => ⟨by omega, ?_⟩, fun c => ?_⟩⟩
    · have hn : ¬ n ∈ L := by
        intro q
        rw [if_pos q] at ha
        rw [ha] at c
        exact absurd c (by decide)
      rw [show (n : Int) + 1 = ((n + 1 : Nat) : Int) by omega]
      refine m_as hr hw1 hw hU A hq m (n + 1) (by omega) (fun y hy hm => ?_)
      by_cases q : y = n
      · rw [q] at hm; exact absurd hm hn
      · exact I y (by omega) hm
    · have hn : n ∈ L := by
        by_cases q : n ∈ L
        · exact q
        · rw [if_neg q] at ha; exact absurd ha c
      refine m_isSorted rfl rfl hw1 hw (by omega) ?_
      cases hb : badB n (w - 1) with
      | true =>
        refine ⟨fun c => absurd rfl c, fun _ => ?_⟩
        have : allS w L = false := by
          cases hc : allS w L with
          | false => rfl
          | true =>
            have := allS_iff.1 hc n hn
            unfold srY at this
            rw [hb] at this
            exact absurd this (by decide)
        rw [this] at hq
        exact hq
      | false =>
        refine ⟨fun _ => ⟨by omega, ?_⟩, fun c => absurd c (by decide)⟩
        rw [show (n : Int) + 1 = ((n + 1 : Nat) : Int) by omega]
        refine m_as hr hw1 hw hU A hq m (n + 1) (by omega) (fun y hy hm => ?_)
        by_cases q : y = n
        · rw [q]; unfold srY; rw [hb]; rfl
        · exact I y (by omega) hm
theorem m_areS {h : Hp} {w : Nat} {zw r : Int} {L : List Nat} {Q : Int → Hp → Prop} (ew : zw = w) (hr : r = 119 ∨ r = 120 ∨ r = 124) (hw1 : 1 ≤ w) (hw : w ≤ 8) (hU : ∀ y ∈ L, y < 2 ^ w) (A : st1 h r L) (hq : Q (if allS w L then 1 else 0) h) : CI 1 mX11_areSorted [vr 103, vi zw, vr r] h Q := by
  subst ew
  exact sX11_areSorted (m_as hr hw1 hw hU A hq (2 ^ w) 0 (by omega) (fun y hy => absurd hy (by omega)))
theorem imS_pk {w i j : Nat} {L : List Nat} (hU : ∀ y ∈ L, y < 2 ^ w) : allS w (imS L (i, j) (2 ^ w)) = pk w L i j := by
  cases hb : pk w L i j with
  | true =>
    refine allS_iff.2 (fun z hz => ?_)
    obtain ⟨x, h1, h2, h3⟩ := (imS_mem (2 ^ w)).1 hz
    rw [← h3]
    exact pk_iff.1 hb x h2
  | false =>
    cases hc : allS w (imS L (i, j) (2 ^ w)) with
    | false => rfl
    | true =>
      have : pk w L i j = true := pk_iff.2 (fun y hy => allS_iff.1 hc _ ((imS_mem (2 ^ w)).2 ⟨y, hU y hy, hy, rfl⟩))
      rw [this] at hb
      exact absurd hb (by decide)
theorem imS_lt {w i j : Nat} {L : List Nat} (hi : i < w) (hj : j < w) (hU : ∀ y ∈ L, y < 2 ^ w) : ∀ z ∈ imS L (i, j) (2 ^ w), z < 2 ^ w := by
  intro z hz
  obtain ⟨x, h1, h2, h3⟩ := (imS_mem (2 ^ w)).1 hz
  rw [← h3]
  exact exq_lt hi hj h1
theorem m_o11 {w i : Nat} {L : List Nat} {Q : Int → Hp → Prop} (hw1 : 1 ≤ w) (hw : w ≤ 8) (hU : ∀ y ∈ L, y < 2 ^ w) (hi : i < w) : ∀ (m j : Nat) (z : Int) (h : Hp), st1 h 119 L → z = j → j + m = w → i < j → (∀ j' : Nat, i < j' → j' < j → pk w L i j' = false) → (∀ (j : Nat) (g : Hp), i < j → j < w → pk w L i j = true → (∀ x y : Int, x ≠ 120 → g x y = h x y) → Q 1 g) → (∀ g : Hp, (∀ x y : Int, x ≠ 120 → g x y = h x y) → (∀ j' : Nat, i < j' → j' < w → pk w L i j' = false) → E 2 mX11_isOneEnough 2 [(0, vr 103), (1, vi w), (2, vi ((i : Int) + 1))] [] g (qi Q)) → E 2 mX11_isOneEnough 11 [(0, vr 103), (1, vi w), (2, vi i), (3, vi z)] [] h (qi Q)
  | 0, j, z, h, A, ez, hm, hij, I, hq1, hn => sX11_isOneEnough_11 ⟨fun _ => ⟨by omega, hn h (fun _ _ _ => rfl) (fun j' h1 h2 => I j' h1 (by omega))⟩, fun c => absurd c (by omega)⟩
  | m + 1, j, z, h, A, ez, hm, hij, I, hq1, hn => by
    subst ez
    refine sX11_isOneEnough_11 ⟨fun c => absurd c (by omega), fun _ => m_counts rfl rfl rfl hw hi (by omega) A (fun g p1 p2 => ?_)⟩
    refine m_areS rfl (Or.inr (Or.inl rfl)) hw1 hw (imS_lt hi (by omega) hU) p1 ?_
    rw [imS_pk hU]
    cases hb : pk w L i j with
    | true => exact ⟨fun c => absurd c (by decide), fun _ => hq1 j g hij (by omega) hb p2⟩
    | false =>
      refine ⟨fun _ => ⟨by omega, m_o11 hw1 hw hU hi m (j + 1) _ g (fun y hy => by rw [p2 _ _ (by omega)]; exact A y hy) (by omega) (by omega) (by omega) (fun j' h1 h2 => ?_) (fun j g2 a1 a2 a3 a4 => hq1 j g2 a1 a2 a3 (fun x y hx => by rw [a4 x y hx, p2 x y hx])) (fun g2 a1 a2 => hn g2 (fun x y hx => by rw [a1 x y hx, p2 x y hx]) a2)⟩, fun c => absurd rfl c⟩
      by_cases q : j' = j
      · rw [q]; exact hb
      · exact I j' h1 (by omega)
theorem m_o2 {w : Nat} {L : List Nat} {Q : Int → Hp → Prop} (hw1 : 1 ≤ w) (hw : w ≤ 8) (hU : ∀ y ∈ L, y < 2 ^ w) : ∀ (m i : Nat) (z : Int) (h : Hp), st1 h 119 L → z = i → i + m = w → (∀ i' j' : Nat, i' < i → i' < j' → j' < w → pk w L i' j' = false) → (∀ g : Hp, (∀ x y : Int, x ≠ 120 → g x y = h x y) → Q (if oneB w L then 1 else 0) g) → E 2 mX11_isOneEnough 2 [(0, vr 103), (1, vi w), (2, vi z)] [] h (qi Q)
  | 0, i, z, h, A, ez, hm, I, hq => by
    refine sX11_isOneEnough_2 ⟨fun _ => ?_, fun c => absurd c (by omega)⟩
    have hf : oneB w L = false := anyP_f (fun i' j' h1 h2 => I i' j' (by omega) h1 h2)
    rw [hf] at hq
    exact hq h (fun _ _ _ => rfl)
  | m + 1, i, z, h, A, ez, hm, I, hq => by
    subst ez
    refine sX11_isOneEnough_2 ⟨fun c => absurd c (by omega), fun _ => ⟨by omega, ?_⟩⟩
    refine m_o11 hw1 hw hU (by omega) (w - (i + 1)) (i + 1) _ h A (by omega) (by omega) (by omega) (fun j' h1 h2 => absurd h2 (by omega)) (fun j g h1 h2 h3 fr => ?_) (fun g fr a => m_o2 hw1 hw hU m (i + 1) _ g (fun y hy => by rw [fr _ _ (by omega)]; exact A y hy) (by omega) (by omega) (fun i' j' h1 h2 h3 => ?_) (fun g2 f2 => hq g2 (fun x y hx => by rw [f2 x y hx, fr x y hx])))
    · have ht : oneB w L = true := anyP_iff.2 ⟨i, j, h1, h2, h3⟩
      rw [ht] at hq
      exact hq g fr
    · by_cases q : i' = i
      · subst q; exact a j' h2 h3
      · exact I i' j' (by omega) h2 h3
theorem m_oneE {h : Hp} {zw : Int} {w : Nat} {L : List Nat} {Q : Int → Hp → Prop} (ew : zw = w) (hw1 : 1 ≤ w) (hw : w ≤ 8) (hU : ∀ y ∈ L, y < 2 ^ w) (A : st1 h 119 L) (hq : ∀ g : Hp, (∀ x y : Int, x ≠ 120 → g x y = h x y) → Q (if oneB w L then 1 else 0) g) : CI 2 mX11_isOneEnough [vr 103, vi zw] h Q := by
  subst ew
  exact sX11_isOneEnough (m_o2 hw1 hw hU w 0 0 h A (by omega) (by omega) (fun i' j' h1 => absurd h1 (by omega)) hq)
theorem st01 {h : Hp} {r : Int} {L : List Nat} {y : Nat} (A : st1 h r L) (hy : y < 256) : h r y = 0 ∨ h r y = 1 := by
  rw [A y hy]
  split
  · exact Or.inr rfl
  · exact Or.inl rfl
theorem m_cp53 {k lim : Int} {L : List Nat} {Q : Int → Hp → Prop} : ∀ (m n : Nat) (h : Hp), n + m = 256 → st1 h 124 L → (∀ y : Nat, y < n → h 119 y = h 124 y) → (∀ g : Hp, st1 g 119 L → (∀ x y : Int, x ≠ 119 → g x y = h x y) → E 3 mX11_missing 81 [(0, vr 103), (1, vi k), (2, vi lim)] [] g (qi Q)) → E 3 mX11_missing 53 [(0, vr 103), (1, vi k), (2, vi lim), (4, vi n)] [] h (qi Q)
  | 0, n, h, hm, A, I, hq => sX11_missing_53 ⟨fun _ => hq h (fun y hy => by rw [I y (by omega)]; exact A y hy) (fun _ _ _ => rfl), fun c => absurd c (by omega)⟩
  | m + 1, n, h, hm, A, I, hq => by
    refine sX11_missing_53 ⟨fun c => absurd c (by omega), fun _ => ⟨⟨by omega, st01 A (by omega), by omega⟩, ?_⟩⟩
    rw [show (n : Int) + 1 = ((n + 1 : Nat) : Int) by omega]
    refine m_cp53 m (n + 1) _ (by omega) (fun y hy => by rw [up_no (by omega)]; exact A y hy) (fun y hy => ?_) (fun g p1 p2 => hq g p1 (fun x y hx => by rw [p2 x y hx, up_no (by omega)]))
    by_cases q : y = n
    · subst q; rw [up_eq, up_no (by omega)]
    · rw [up_no (by omega), up_no (by omega)]; exact I y (by omega)
theorem m_cp140 {k : Nat} {lim i j : Int} {L : List Nat} {Q : Int → Hp → Prop} (hk : k < 4) : ∀ (m n : Nat) (h : Hp), n + m = 256 → st1 h 124 L → (∀ y : Nat, y < n → h 119 y = h 124 y) → (∀ g : Hp, st1 g 119 L → (∀ x y : Int, x ≠ 119 → g x y = h x y) → CI 0 mX11_counts [vr 103, vi (g 104 k), vi i, vi j] g (fun r4 h3 => E 3 mX11_missing 187 [(0, vr 103), (1, vi k), (2, vi lim), (4, vi i), (5, vi j), (7, vi 0)] [] h3 (qi Q))) → E 3 mX11_missing 140 [(0, vr 103), (1, vi k), (2, vi lim), (4, vi i), (5, vi j), (6, vi n)] [] h (qi Q)
  | 0, n, h, hm, A, I, hq => sX11_missing_140 ⟨fun _ => ⟨by omega, hq h (fun y hy => by rw [I y (by omega)]; exact A y hy) (fun _ _ _ => rfl)⟩, fun c => absurd c (by omega)⟩
  | m + 1, n, h, hm, A, I, hq => by
    refine sX11_missing_140 ⟨fun c => absurd c (by omega), fun _ => ⟨⟨by omega, st01 A (by omega), by omega⟩, ?_⟩⟩
    rw [show (n : Int) + 1 = ((n + 1 : Nat) : Int) by omega]
    refine m_cp140 hk m (n + 1) _ (by omega) (fun y hy => by rw [up_no (by omega)]; exact A y hy) (fun y hy => ?_) (fun g p1 p2 => hq g p1 (fun x y hx => by rw [p2 x y hx, up_no (by omega)]))
    by_cases q : y = n
    · subst q; rw [up_eq, up_no (by omega)]
    · rw [up_no (by omega), up_no (by omega)]; exact I y (by omega)
theorem m_cp187 {k : Nat} {lim i j : Int} {L : List Nat} {Q : Int → Hp → Prop} (hk : k < 4) : ∀ (m n : Nat) (h : Hp), n + m = 256 → st1 h 120 L → (∀ y : Nat, y < n → h 119 y = h 120 y) → (∀ g : Hp, st1 g 119 L → (∀ x y : Int, x ≠ 119 → g x y = h x y) → CI 2 mX11_isOneEnough [vr 103, vi (g 104 k)] g (fun r4 h3 => ((r4 = 0) → (rj (j + 1)) ∧ E 3 mX11_missing 126 [(0, vr 103), (1, vi k), (2, vi lim), (4, vi i), (5, vi (j + 1))] [] h3 (qi Q)) ∧ ((r4 ≠ 0) → Q 2 h3))) → E 3 mX11_missing 187 [(0, vr 103), (1, vi k), (2, vi lim), (4, vi i), (5, vi j), (7, vi n)] [] h (qi Q)
  | 0, n, h, hm, A, I, hq => sX11_missing_187 ⟨fun _ => ⟨by omega, hq h (fun y hy => by rw [I y (by omega)]; exact A y hy) (fun _ _ _ => rfl)⟩, fun c => absurd c (by omega)⟩
  | m + 1, n, h, hm, A, I, hq => by
    refine sX11_missing_187 ⟨fun c => absurd c (by omega), fun _ => ⟨⟨by omega, st01 A (by omega), by omega⟩, ?_⟩⟩
    rw [show (n : Int) + 1 = ((n + 1 : Nat) : Int) by omega]
    refine m_cp187 hk m (n + 1) _ (by omega) (fun y hy => by rw [up_no (by omega)]; exact A y hy) (fun y hy => ?_) (fun g p1 p2 => hq g p1 (fun x y hx => by rw [p2 x y hx, up_no (by omega)]))
    by_cases q : y = n
    · subst q; rw [up_eq, up_no (by omega)]
    · rw [up_no (by omega), up_no (by omega)]; exact I y (by omega)
def frS (g h : Hp) : Prop := ∀ x y : Int, ¬ (x = 119 ∨ x = 120) → g x y = h x y
theorem one_im {w i j : Nat} {L : List Nat} (hU : ∀ y ∈ L, y < 2 ^ w) : oneB w (imS L (i, j) (2 ^ w)) = oneB w (L.map (exq (i, j))) := by
  refine oneB_mem (fun y => ?_)
  rw [imS_mem, List.mem_map]
  exact ⟨fun ⟨x, h1, h2, h3⟩ => ⟨x, h2, h3⟩, fun ⟨x, h2, h3⟩ => ⟨x, hU x h2, h2, h3⟩⟩
theorem m_m126 {k w i : Nat} {L : List Nat} {Q : Int → Hp → Prop} (hk : k < 4) (hw1 : 1 ≤ w) (hw : w ≤ 8) (hU : ∀ y ∈ L, y < 2 ^ w) (hi : i < w) : ∀ (m j : Nat) (z : Int) (h : Hp), h 104 k = w → st1 h 124 L → z = j → j + m = w → i < j → (∀ j' : Nat, i < j' → j' < j → oneB w (L.map (exq (i, j'))) = false) → (∀ (j : Nat) (g : Hp), i < j → j < w → oneB w (L.map (exq (i, j))) = true → frS g h → Q 2 g) → (∀ g : Hp, frS g h → (∀ j' : Nat, i < j' → j' < w → oneB w (L.map (exq (i, j'))) = false) → E 3 mX11_missing 104 [(0, vr 103), (1, vi k), (2, vi 2), (4, vi ((i : Int) + 1))] [] g (qi Q)) → E 3 mX11_missing 126 [(0, vr 103), (1, vi k), (2, vi 2), (4, vi i), (5, vi z)] [] h (qi Q)
  | 0, j, z, h, ew, A, ez, hm, hij, I, hq1, hn => sX11_missing_126 ⟨by omega, fun _ => ⟨by omega, hn h (fun _ _ _ => rfl) (fun j' h1 h2 => I j' h1 (by omega))⟩, fun c => absurd c (by omega)⟩
  | m + 1, j, z, h, ew, A, ez, hm, hij, I, hq1, hn => by
    subst ez
    refine sX11_missing_126 ⟨by omega, fun c => absurd c (by omega), fun _ => ?_⟩
    refine m_cp140 hk 256 0 h (by omega) A (fun y hy => absurd hy (by omega)) (fun g1 p1 p2 => ?_)
    have ew1 : g1 104 k = w := by rw [p2 _ _ (by omega)]; exact ew
    refine m_counts ew1 rfl rfl hw hi (by omega) p1 (fun g2 q1 q2 => ?_)
    refine m_cp187 hk 256 0 g2 (by omega) q1 (fun y hy => absurd hy (by omega)) (fun g3 r1 r2 => ?_)
    have ew3 : g3 104 k = w := by rw [r2 _ _ (by omega), q2 _ _ (by omega)]; exact ew1
    refine m_oneE ew3 hw1 hw (imS_lt hi (by omega) hU) r1 (fun g4 s2 => ?_)
    rw [one_im hU]
    have fr4 : frS g4 h := fun x y hx => by rw [s2 x y (by omega), r2 x y (by omega), q2 x y (by omega), p2 x y (by omega)]
    cases hb : oneB w (L.map (exq (i, j))) with
    | true => exact ⟨fun c => absurd c (by decide), fun _ => hq1 j g4 hij (by omega) hb fr4⟩
    | false =>
      refine ⟨fun _ => ⟨by omega, m_m126 hk hw1 hw hU hi m (j + 1) _ g4 (by rw [fr4 _ _ (by omega)]; exact ew) (fun y hy => by rw [fr4 _ _ (by omega)]; exact A y hy) (by omega) (by omega) (by omega) (fun j' h1 h2 => ?_) (fun j g5 a1 a2 a3 a4 => hq1 j g5 a1 a2 a3 (fun x y hx => by rw [a4 x y hx, fr4 x y hx])) (fun g5 a1 a2 => hn g5 (fun x y hx => by rw [a1 x y hx, fr4 x y hx]) a2)⟩, fun c => absurd rfl c⟩
      by_cases q : j' = j
      · rw [q]; exact hb
      · exact I j' h1 (by omega)
theorem m_m104 {k w : Nat} {L : List Nat} {Q : Int → Hp → Prop} (hk : k < 4) (hw1 : 1 ≤ w) (hw : w ≤ 8) (hU : ∀ y ∈ L, y < 2 ^ w) : ∀ (m i : Nat) (z : Int) (h : Hp), h 104 k = w → st1 h 124 L → z = i → i + m = w → (∀ i' j' : Nat, i' < i → i' < j' → j' < w → oneB w (L.map (exq (i', j'))) = false) → (∀ g : Hp, frS g h → Q (if twoB w L then 2 else -4) g) → E 3 mX11_missing 104 [(0, vr 103), (1, vi k), (2, vi 2), (4, vi z)] [] h (qi Q)
  | 0, i, z, h, ew, A, ez, hm, I, hq => by
    refine sX11_missing_104 ⟨fun c => absurd rfl c, fun _ => ⟨by omega, fun _ => ?_, fun c => absurd c (by omega)⟩⟩
    have hf : twoB w L = false := anyP_f (fun i' j' h1 h2 => I i' j' (by omega) h1 h2)
    rw [hf] at hq
    exact hq h (fun _ _ _ => rfl)
  | m + 1, i, z, h, ew, A, ez, hm, I, hq => by
    subst ez
    refine sX11_missing_104 ⟨fun c => absurd rfl c, fun _ => ⟨by omega, fun c => absurd c (by omega), fun _ => ⟨by omega, ?_⟩⟩⟩
    refine m_m126 hk hw1 hw hU (by omega) (w - (i + 1)) (i + 1) _ h ew A (by omega) (by omega) (by omega) (fun j' h1 h2 => absurd h2 (by omega)) (fun j g h1 h2 h3 fr => ?_) (fun g fr a => m_m104 hk hw1 hw hU m (i + 1) _ g (by rw [fr _ _ (by omega)]; exact ew) (fun y hy => by rw [fr _ _ (by omega)]; exact A y hy) (by omega) (by omega) (fun i' j' h1 h2 h3 => ?_) (fun g2 f2 => hq g2 (fun x y hx => by rw [f2 x y hx, fr x y hx])))
    · have ht : twoB w L = true := anyP_iff.2 ⟨i, j, h1, h2, h3⟩
      rw [ht] at hq
      exact hq g fr
    · by_cases q : i' = i
      · subst q; exact a j' h2 h3
      · exact I i' j' (by omega) h2 h3
theorem dst_lt {N : NetT} (hok : okN N) : ∀ y ∈ dst (cry N.2) (2 ^ N.1), y < 2 ^ N.1 := by
  intro y hy
  obtain ⟨x, h1, h2⟩ := (dst_mem (2 ^ N.1)).1 hy
  rw [← h2]
  exact cry_lt N.2 x hok.2.2.2 h1
theorem lts_0 {w lim : Nat} {L : List Nat} (a : allS w L = true) : lts w lim L = 0 := by
  unfold lts; rw [if_pos a]
theorem lts_1 {w lim : Nat} {L : List Nat} (a : allS w L = false) (b : 1 ≤ lim) (c : oneB w L = true) : lts w lim L = 1 := by
  unfold lts; rw [a, if_neg (by decide), if_pos ⟨b, c⟩]
theorem lts_2 {w lim : Nat} {L : List Nat} (a : allS w L = false) (b : 2 ≤ lim) (c : oneB w L = false) (d : twoB w L = true) : lts w lim L = 2 := by
  unfold lts; rw [a, if_neg (by decide), c, if_neg (fun x => absurd x.2 (by decide)), if_pos ⟨b, d⟩]
theorem lts_3 {w lim : Nat} {L : List Nat} (a : allS w L = false) (b : ¬ (1 ≤ lim ∧ oneB w L = true)) (c : ¬ (2 ≤ lim ∧ twoB w L = true)) : lts w lim L = lim + 1 := by
  unfold lts; rw [a, if_neg (by decide), if_neg b, if_neg c]
theorem op_missing {h : Hp} {k lim : Int} (hR : Rl h) : OpI 5 mX10_missing 3 mX11_missing [vi k, vi lim] h := by
  obtain ⟨nets, hist, H⟩ := Rl_RlN hR
  by_cases hk : 0 ≤ k ∧ k < 4
  · obtain ⟨j, hj, rfl⟩ := toN hk.1 hk.2
    obtain ⟨n1, n2, n3⟩ := H.1 j hj
    have w2 := n1.1
    have w8 := n1.2.1
    have h256 := p256 w8
    have dl := dst_len (f := cry (nets j).2) (2 ^ (nets j).1)
    have dt := dst_lt n1
    by_cases hl : 0 ≤ lim ∧ lim ≤ 2
    · obtain ⟨l, rfl⟩ : ∃ l : Nat, lim = l := ⟨lim.toNat, by omega⟩
      obtain ⟨L, eL⟩ : ∃ L, L = dst (cry (nets j).2) (2 ^ (nets j).1) := ⟨_, rfl⟩
      rw [← eL] at dl dt
      refine op_keep (r := if ((lts (nets j).1 l L : Nat) : Int) ≤ l then ((lts (nets j).1 l L : Nat) : Int) else -4) H ?_ (fun h1 ms => ?_)
      · refine sX10_missing ⟨fun _ => ⟨fun c => absurd c (by omega), fun _ => ⟨fun _ => ⟨by omega, c_outs (N := nets j) (Or.inl rfl) (by omega) n1 n2 (fun g O fr => ?_)⟩, fun c => absurd c (by omega)⟩⟩, fun c => absurd c (by omega)⟩
        rw [← eL] at O
        refine c_least (by omega) w8 (by omega) dt (by omega) O (fun g2 f2 => ⟨rfl, fun x y hx => ?_⟩)
        unfold kC0 at hx
        rw [f2 x y (by omega), fr x y (by omega)]
      · obtain ⟨m1, m2, m3, m4, e⟩ := ms
        refine sX11_missing ⟨fun _ => ⟨fun _ => m_finds (N := nets j) (Or.inr (Or.inr rfl)) hj n1 (m1 j hj).2 (fun g O fr => ⟨by omega, ?_⟩), fun c => absurd c (by omega)⟩, fun c => absurd c (by omega)⟩
        rw [← eL] at O
        have ew : g 104 j = (nets j).1 := by rw [fr _ _ (by omega)]; exact (m1 j hj).2.1
        refine m_areS ew (Or.inr (Or.inr rfl)) (by omega) w8 dt O ?_
        cases ha : allS (nets j).1 L with
        | true =>
          refine ⟨fun c => absurd c (by decide), fun _ => ⟨?_, fun x y hx => fr x y (by unfold kM0 at hx; omega)⟩⟩
          rw [lts_0 ha, if_pos (by omega)]; rfl
        | false =>
          refine ⟨fun _ => ?_, fun c => absurd rfl c⟩
          refine m_cp53 256 0 g (by omega) O (fun y hy => absurd hy (by omega)) (fun g1 p1 p2 => ?_)
          have fr1 : ∀ x y : Int, ¬ (x = 119 ∨ x = 120 ∨ x = 124) → g1 x y = h1 x y := fun x y hx => by rw [p2 x y (by omega), fr x y (by omega)]
          have ew1 : g1 104 j = (nets j).1 := by rw [p2 _ _ (by omega)]; exact ew
          have A1 : st1 g1 124 L := fun y hy => by rw [p2 _ _ (by omega)]; exact O y hy
          have no4 : ∀ g2 : Hp, frS g2 g1 → ∀ x y : Int, kM0 x y → g2 x y = h1 x y := fun g2 f2 x y hx => by unfold kM0 at hx; rw [f2 x y (by omega), fr1 x y (by omega)]
          refine sX11_missing_81 ⟨fun c => ?_, fun c => ⟨by omega, m_oneE ew1 (by omega) w8 dt p1 (fun g2 f2 => ?_)⟩⟩
          · refine sX11_missing_104 ⟨fun _ => ⟨?_, no4 g1 (fun _ _ _ => rfl)⟩, fun c2 => absurd c2 (by omega)⟩
            rw [lts_3 ha (by omega) (by omega), if_neg (by omega)]
          · have f2' : frS g2 g1 := fun x y hx => f2 x y (by omega)
            cases hb : oneB (nets j).1 L with
            | true =>
              refine ⟨fun c => absurd c (by decide), fun _ => ⟨?_, no4 g2 f2'⟩⟩
              rw [lts_1 ha (by omega) hb, if_pos (by omega)]; rfl
            | false =>
              refine ⟨fun _ => ?_, fun c => absurd rfl c⟩
              by_cases l2 : l = 2
              · subst l2
                refine m_m104 hj (by omega) w8 dt (nets j).1 0 0 g2 (by rw [f2 _ _ (by omega)]; exact ew1) (fun y hy => by rw [f2 _ _ (by omega)]; exact A1 y hy) (by omega) (by omega) (fun i' j' h1 => absurd h1 (by omega)) (fun g3 f3 => ⟨?_, no4 g3 (fun x y hx => by rw [f3 x y hx, f2' x y hx])⟩)
                cases ht : twoB (nets j).1 L with
                | true => rw [lts_2 ha (by omega) hb ht]; rfl
                | false => rw [lts_3 ha (fun c => by rw [hb] at c; exact absurd c.2 (by decide)) (fun c => by rw [ht] at c; exact absurd c.2 (by decide))]; rfl
              · refine sX11_missing_104 ⟨fun _ => ⟨?_, no4 g2 f2'⟩, fun c2 => absurd c2 (by omega)⟩
                rw [lts_3 ha (fun c => by rw [hb] at c; exact absurd c.2 (by decide)) (by omega), if_neg (by omega)]
    · have no : CI 3 mX11_missing [vr 103, vi j, vi lim] h (fun r2 h2 => -2 = r2 ∧ Rl h2) := sX11_missing ⟨fun _ => ⟨fun c => absurd c (by omega), fun _ => ⟨rfl, hR⟩⟩, fun c => absurd c (by omega)⟩
      exact sX10_missing ⟨fun _ => ⟨fun _ => no, fun _ => ⟨fun c => absurd c (by omega), fun _ => no⟩⟩, fun c => absurd c (by omega)⟩
  · exact sX10_missing ⟨fun c => absurd c (by omega), fun _ => sX11_missing ⟨fun c => absurd c (by omega), fun _ => ⟨rfl, hR⟩⟩⟩
